theorem dX0_init_0 : decode cX0_init 0 = .ok (.aload_n 0, 1) := by decide +kernel
theorem dX0_init_1 : decode cX0_init 1 = .ok (.invokespecial 3, 3) := by decide +kernel
theorem dX0_init_4 : decode cX0_init 4 = .ok (.aload_n 0, 1) := by decide +kernel
theorem dX0_init_5 : decode cX0_init 5 = .ok (.sipush 400, 3) := by decide +kernel
theorem dX0_init_8 : decode cX0_init 8 = .ok (.newarray .int, 2) := by decide +kernel
theorem dX0_init_10 : decode cX0_init 10 = .ok (.putfield 9, 3) := by decide +kernel
theorem dX0_init_13 : decode cX0_init 13 = .ok (.aload_n 0, 1) := by decide +kernel
theorem dX0_init_14 : decode cX0_init 14 = .ok (.iconst 0, 1) := by decide +kernel
theorem dX0_init_15 : decode cX0_init 15 = .ok (.putfield 15, 3) := by decide +kernel
theorem dX0_init_18 : decode cX0_init 18 = .ok (.aload_n 0, 1) := by decide +kernel
theorem dX0_init_19 : decode cX0_init 19 = .ok (.iconst 0, 1) := by decide +kernel
theorem dX0_init_20 : decode cX0_init 20 = .ok (.putfield 19, 3) := by decide +kernel
theorem dX0_init_23 : decode cX0_init 23 = .ok (.return_, 1) := by decide +kernel
theorem dX0_add_0 : decode cX0_add 0 = .ok (.aload_n 0, 1) := by decide +kernel
theorem dX0_add_1 : decode cX0_add 1 = .ok (.getfield 15, 3) := by decide +kernel
theorem dX0_add_4 : decode cX0_add 4 = .ok (.sipush 400, 3) := by decide +kernel
theorem dX0_add_7 : decode cX0_add 7 = .ok (.if_icmp .ge 23, 3) := by decide +kernel
theorem dX0_add_10 : decode cX0_add 10 = .ok (.aload_n 0, 1) := by decide +kernel
theorem dX0_add_11 : decode cX0_add 11 = .ok (.getfield 9, 3) := by decide +kernel
theorem dX0_add_14 : decode cX0_add 14 = .ok (.aload_n 0, 1) := by decide +kernel
theorem dX0_add_15 : decode cX0_add 15 = .ok (.getfield 15, 3) := by decide +kernel
theorem dX0_add_18 : decode cX0_add 18 = .ok (.iload_n 1, 1) := by decide +kernel
theorem dX0_add_19 : decode cX0_add 19 = .ok (.iastore, 1) := by decide +kernel
theorem dX0_add_20 : decode cX0_add 20 = .ok (.aload_n 0, 1) := by decide +kernel
theorem dX0_add_21 : decode cX0_add 21 = .ok (.dup, 1) := by decide +kernel
theorem dX0_add_22 : decode cX0_add 22 = .ok (.getfield 15, 3) := by decide +kernel
theorem dX0_add_25 : decode cX0_add 25 = .ok (.iconst 1, 1) := by decide +kernel
theorem dX0_add_26 : decode cX0_add 26 = .ok (.iadd, 1) := by decide +kernel
theorem dX0_add_27 : decode cX0_add 27 = .ok (.putfield 15, 3) := by decide +kernel
theorem dX0_add_30 : decode cX0_add 30 = .ok (.return_, 1) := by decide +kernel
theorem dX0_undrawn_0 : decode cX0_undrawn 0 = .ok (.aload_n 0, 1) := by decide +kernel
theorem dX0_undrawn_1 : decode cX0_undrawn 1 = .ok (.getfield 15, 3) := by decide +kernel
theorem dX0_undrawn_4 : decode cX0_undrawn 4 = .ok (.aload_n 0, 1) := by decide +kernel
theorem dX0_undrawn_5 : decode cX0_undrawn 5 = .ok (.getfield 19, 3) := by decide +kernel
theorem dX0_undrawn_8 : decode cX0_undrawn 8 = .ok (.isub, 1) := by decide +kernel
theorem dX0_undrawn_9 : decode cX0_undrawn 9 = .ok (.ireturn, 1) := by decide +kernel
theorem dX0_draw_0 : decode cX0_draw 0 = .ok (.aload_n 0, 1) := by decide +kernel
theorem dX0_draw_1 : decode cX0_draw 1 = .ok (.getfield 19, 3) := by decide +kernel
theorem dX0_draw_4 : decode cX0_draw 4 = .ok (.aload_n 0, 1) := by decide +kernel
theorem dX0_draw_5 : decode cX0_draw 5 = .ok (.getfield 15, 3) := by decide +kernel
theorem dX0_draw_8 : decode cX0_draw 8 = .ok (.if_icmp .ge 8, 3) := by decide +kernel
theorem dX0_draw_11 : decode cX0_draw 11 = .ok (.iload_n 1, 1) := by decide +kernel
theorem dX0_draw_12 : decode cX0_draw 12 = .ok (.iconst 1, 1) := by decide +kernel
theorem dX0_draw_13 : decode cX0_draw 13 = .ok (.if_icmp .ge 5, 3) := by decide +kernel
theorem dX0_draw_16 : decode cX0_draw 16 = .ok (.iconst 0, 1) := by decide +kernel
theorem dX0_draw_17 : decode cX0_draw 17 = .ok (.ireturn, 1) := by decide +kernel
theorem dX0_draw_18 : decode cX0_draw 18 = .ok (.aload_n 0, 1) := by decide +kernel
theorem dX0_draw_19 : decode cX0_draw 19 = .ok (.getfield 9, 3) := by decide +kernel
theorem dX0_draw_22 : decode cX0_draw 22 = .ok (.aload_n 0, 1) := by decide +kernel
theorem dX0_draw_23 : decode cX0_draw 23 = .ok (.getfield 19, 3) := by decide +kernel
theorem dX0_draw_26 : decode cX0_draw 26 = .ok (.iaload, 1) := by decide +kernel
theorem dX0_draw_27 : decode cX0_draw 27 = .ok (.istore_n 2, 1) := by decide +kernel
theorem dX0_draw_28 : decode cX0_draw 28 = .ok (.aload_n 0, 1) := by decide +kernel
theorem dX0_draw_29 : decode cX0_draw 29 = .ok (.dup, 1) := by decide +kernel
theorem dX0_draw_30 : decode cX0_draw 30 = .ok (.getfield 19, 3) := by decide +kernel
theorem dX0_draw_33 : decode cX0_draw 33 = .ok (.iconst 1, 1) := by decide +kernel
theorem dX0_draw_34 : decode cX0_draw 34 = .ok (.iadd, 1) := by decide +kernel
theorem dX0_draw_35 : decode cX0_draw 35 = .ok (.putfield 19, 3) := by decide +kernel
theorem dX0_draw_38 : decode cX0_draw 38 = .ok (.iload_n 2, 1) := by decide +kernel
theorem dX0_draw_39 : decode cX0_draw 39 = .ok (.iload_n 1, 1) := by decide +kernel
theorem dX0_draw_40 : decode cX0_draw 40 = .ok (.irem, 1) := by decide +kernel
theorem dX0_draw_41 : decode cX0_draw 41 = .ok (.ireturn, 1) := by decide +kernel
theorem dX1_init_0 : decode cX1_init 0 = .ok (.aload_n 0, 1) := by decide +kernel
theorem dX1_init_1 : decode cX1_init 1 = .ok (.invokespecial 3, 3) := by decide +kernel
theorem dX1_init_4 : decode cX1_init 4 = .ok (.aload_n 0, 1) := by decide +kernel
theorem dX1_init_5 : decode cX1_init 5 = .ok (.sipush 700, 3) := by decide +kernel
theorem dX1_init_8 : decode cX1_init 8 = .ok (.newarray .int, 2) := by decide +kernel
theorem dX1_init_10 : decode cX1_init 10 = .ok (.putfield 9, 3) := by decide +kernel
theorem dX1_init_13 : decode cX1_init 13 = .ok (.aload_n 0, 1) := by decide +kernel
theorem dX1_init_14 : decode cX1_init 14 = .ok (.sipush 700, 3) := by decide +kernel
theorem dX1_init_17 : decode cX1_init 17 = .ok (.newarray .int, 2) := by decide +kernel
theorem dX1_init_19 : decode cX1_init 19 = .ok (.putfield 15, 3) := by decide +kernel
theorem dX1_init_22 : decode cX1_init 22 = .ok (.aload_n 0, 1) := by decide +kernel
theorem dX1_init_23 : decode cX1_init 23 = .ok (.sipush 700, 3) := by decide +kernel
theorem dX1_init_26 : decode cX1_init 26 = .ok (.newarray .int, 2) := by decide +kernel
theorem dX1_init_28 : decode cX1_init 28 = .ok (.putfield 18, 3) := by decide +kernel
theorem dX1_init_31 : decode cX1_init 31 = .ok (.aload_n 0, 1) := by decide +kernel
theorem dX1_init_32 : decode cX1_init 32 = .ok (.iconst 0, 1) := by decide +kernel
theorem dX1_init_33 : decode cX1_init 33 = .ok (.putfield 21, 3) := by decide +kernel
theorem dX1_init_36 : decode cX1_init 36 = .ok (.return_, 1) := by decide +kernel
theorem dX1_told_0 : decode cX1_told 0 = .ok (.aload_n 0, 1) := by decide +kernel
theorem dX1_told_1 : decode cX1_told 1 = .ok (.getfield 21, 3) := by decide +kernel
theorem dX1_told_4 : decode cX1_told 4 = .ok (.sipush 700, 3) := by decide +kernel
theorem dX1_told_7 : decode cX1_told 7 = .ok (.invokestatic 25, 3) := by decide +kernel
theorem dX1_told_10 : decode cX1_told 10 = .ok (.ireturn, 1) := by decide +kernel
theorem dX1_add_0 : decode cX1_add 0 = .ok (.aload_n 0, 1) := by decide +kernel
theorem dX1_add_1 : decode cX1_add 1 = .ok (.getfield 21, 3) := by decide +kernel
theorem dX1_add_4 : decode cX1_add 4 = .ok (.sipush 700, 3) := by decide +kernel
theorem dX1_add_7 : decode cX1_add 7 = .ok (.if_icmp .ge 34, 3) := by decide +kernel
theorem dX1_add_10 : decode cX1_add 10 = .ok (.aload_n 0, 1) := by decide +kernel
theorem dX1_add_11 : decode cX1_add 11 = .ok (.getfield 9, 3) := by decide +kernel
theorem dX1_add_14 : decode cX1_add 14 = .ok (.aload_n 0, 1) := by decide +kernel
theorem dX1_add_15 : decode cX1_add 15 = .ok (.getfield 21, 3) := by decide +kernel
theorem dX1_add_18 : decode cX1_add 18 = .ok (.iload_n 1, 1) := by decide +kernel
theorem dX1_add_19 : decode cX1_add 19 = .ok (.iastore, 1) := by decide +kernel
theorem dX1_add_20 : decode cX1_add 20 = .ok (.aload_n 0, 1) := by decide +kernel
theorem dX1_add_21 : decode cX1_add 21 = .ok (.getfield 15, 3) := by decide +kernel
theorem dX1_add_24 : decode cX1_add 24 = .ok (.aload_n 0, 1) := by decide +kernel
theorem dX1_add_25 : decode cX1_add 25 = .ok (.getfield 21, 3) := by decide +kernel
theorem dX1_add_28 : decode cX1_add 28 = .ok (.iload_n 2, 1) := by decide +kernel
theorem dX1_add_29 : decode cX1_add 29 = .ok (.iastore, 1) := by decide +kernel
theorem dX1_add_30 : decode cX1_add 30 = .ok (.aload_n 0, 1) := by decide +kernel
theorem dX1_add_31 : decode cX1_add 31 = .ok (.getfield 18, 3) := by decide +kernel
theorem dX1_add_34 : decode cX1_add 34 = .ok (.aload_n 0, 1) := by decide +kernel
theorem dX1_add_35 : decode cX1_add 35 = .ok (.getfield 21, 3) := by decide +kernel
theorem dX1_add_38 : decode cX1_add 38 = .ok (.lload_n 3, 1) := by decide +kernel
theorem dX1_add_39 : decode cX1_add 39 = .ok (.l2i, 1) := by decide +kernel
theorem dX1_add_40 : decode cX1_add 40 = .ok (.iastore, 1) := by decide +kernel
theorem dX1_add_41 : decode cX1_add 41 = .ok (.aload_n 0, 1) := by decide +kernel
theorem dX1_add_42 : decode cX1_add 42 = .ok (.dup, 1) := by decide +kernel
theorem dX1_add_43 : decode cX1_add 43 = .ok (.getfield 21, 3) := by decide +kernel
theorem dX1_add_46 : decode cX1_add 46 = .ok (.iconst 1, 1) := by decide +kernel
theorem dX1_add_47 : decode cX1_add 47 = .ok (.iadd, 1) := by decide +kernel
theorem dX1_add_48 : decode cX1_add 48 = .ok (.putfield 21, 3) := by decide +kernel
theorem dX1_add_51 : decode cX1_add 51 = .ok (.return_, 1) := by decide +kernel
theorem dX2_init_0 : decode cX2_init 0 = .ok (.aload_n 0, 1) := by decide +kernel
theorem dX2_init_1 : decode cX2_init 1 = .ok (.invokespecial 3, 3) := by decide +kernel
theorem dX2_init_4 : decode cX2_init 4 = .ok (.aload_n 0, 1) := by decide +kernel
theorem dX2_init_5 : decode cX2_init 5 = .ok (.iconst 0, 1) := by decide +kernel
theorem dX2_init_6 : decode cX2_init 6 = .ok (.putfield 9, 3) := by decide +kernel
theorem dX2_init_9 : decode cX2_init 9 = .ok (.aload_n 0, 1) := by decide +kernel
theorem dX2_init_10 : decode cX2_init 10 = .ok (.iconst 0, 1) := by decide +kernel
theorem dX2_init_11 : decode cX2_init 11 = .ok (.putfield 15, 3) := by decide +kernel
theorem dX2_init_14 : decode cX2_init 14 = .ok (.aload_n 0, 1) := by decide +kernel
theorem dX2_init_15 : decode cX2_init 15 = .ok (.iconst 0, 1) := by decide +kernel
theorem dX2_init_16 : decode cX2_init 16 = .ok (.putfield 18, 3) := by decide +kernel
theorem dX2_init_19 : decode cX2_init 19 = .ok (.aload_n 0, 1) := by decide +kernel
theorem dX2_init_20 : decode cX2_init 20 = .ok (.iconst 0, 1) := by decide +kernel
theorem dX2_init_21 : decode cX2_init 21 = .ok (.putfield 21, 3) := by decide +kernel
theorem dX2_init_24 : decode cX2_init 24 = .ok (.aload_n 0, 1) := by decide +kernel
theorem dX2_init_25 : decode cX2_init 25 = .ok (.new 24, 3) := by decide +kernel
theorem dX2_init_28 : decode cX2_init 28 = .ok (.dup, 1) := by decide +kernel
theorem dX2_init_29 : decode cX2_init 29 = .ok (.iconst 4, 1) := by decide +kernel
theorem dX2_init_30 : decode cX2_init 30 = .ok (.invokespecial 26, 3) := by decide +kernel
theorem dX2_init_33 : decode cX2_init 33 = .ok (.putfield 29, 3) := by decide +kernel
theorem dX2_init_36 : decode cX2_init 36 = .ok (.aload_n 0, 1) := by decide +kernel
theorem dX2_init_37 : decode cX2_init 37 = .ok (.iload_n 1, 1) := by decide +kernel
theorem dX2_init_38 : decode cX2_init 38 = .ok (.newarray .long, 2) := by decide +kernel
theorem dX2_init_40 : decode cX2_init 40 = .ok (.putfield 33, 3) := by decide +kernel
theorem dX2_init_43 : decode cX2_init 43 = .ok (.return_, 1) := by decide +kernel
theorem dX2_make_0 : decode cX2_make 0 = .ok (.aload_n 0, 1) := by decide +kernel
theorem dX2_make_1 : decode cX2_make 1 = .ok (.iload_n 1, 1) := by decide +kernel
theorem dX2_make_2 : decode cX2_make 2 = .ok (.putfield 9, 3) := by decide +kernel
theorem dX2_make_5 : decode cX2_make 5 = .ok (.aload_n 0, 1) := by decide +kernel
theorem dX2_make_6 : decode cX2_make 6 = .ok (.iload_n 2, 1) := by decide +kernel
theorem dX2_make_7 : decode cX2_make 7 = .ok (.putfield 15, 3) := by decide +kernel
theorem dX2_make_10 : decode cX2_make 10 = .ok (.aload_n 0, 1) := by decide +kernel
theorem dX2_make_11 : decode cX2_make 11 = .ok (.iload_n 3, 1) := by decide +kernel
theorem dX2_make_12 : decode cX2_make 12 = .ok (.putfield 18, 3) := by decide +kernel
theorem dX2_make_15 : decode cX2_make 15 = .ok (.aload_n 0, 1) := by decide +kernel
theorem dX2_make_16 : decode cX2_make 16 = .ok (.iconst 0, 1) := by decide +kernel
theorem dX2_make_17 : decode cX2_make 17 = .ok (.putfield 21, 3) := by decide +kernel
theorem dX2_make_20 : decode cX2_make 20 = .ok (.aload_n 0, 1) := by decide +kernel
theorem dX2_make_21 : decode cX2_make 21 = .ok (.getfield 29, 3) := by decide +kernel
theorem dX2_make_24 : decode cX2_make 24 = .ok (.iconst 0, 1) := by decide +kernel
theorem dX2_make_25 : decode cX2_make 25 = .ok (.putfield 37, 3) := by decide +kernel
theorem dX2_make_28 : decode cX2_make 28 = .ok (.aload_n 0, 1) := by decide +kernel
theorem dX2_make_29 : decode cX2_make 29 = .ok (.getfield 33, 3) := by decide +kernel
theorem dX2_make_32 : decode cX2_make 32 = .ok (.lconst 0, 1) := by decide +kernel
theorem dX2_make_33 : decode cX2_make 33 = .ok (.invokestatic 40, 3) := by decide +kernel
theorem dX2_make_36 : decode cX2_make 36 = .ok (.return_, 1) := by decide +kernel
theorem dX2_length_0 : decode cX2_length 0 = .ok (.aload_n 0, 1) := by decide +kernel
theorem dX2_length_1 : decode cX2_length 1 = .ok (.getfield 9, 3) := by decide +kernel
theorem dX2_length_4 : decode cX2_length 4 = .ok (.iconst 3, 1) := by decide +kernel
theorem dX2_length_5 : decode cX2_length 5 = .ok (.if_icmp .ne 10, 3) := by decide +kernel
theorem dX2_length_8 : decode cX2_length 8 = .ok (.aload_n 0, 1) := by decide +kernel
theorem dX2_length_9 : decode cX2_length 9 = .ok (.getfield 18, 3) := by decide +kernel
theorem dX2_length_12 : decode cX2_length 12 = .ok (.goto 4, 3) := by decide +kernel
theorem dX2_length_15 : decode cX2_length 15 = .ok (.iconst 2, 1) := by decide +kernel
theorem dX2_length_16 : decode cX2_length 16 = .ok (.ireturn, 1) := by decide +kernel
theorem dX2_isOver_0 : decode cX2_isOver 0 = .ok (.aload_n 0, 1) := by decide +kernel
theorem dX2_isOver_1 : decode cX2_isOver 1 = .ok (.getfield 9, 3) := by decide +kernel
theorem dX2_isOver_4 : decode cX2_isOver 4 = .ok (.ifCond .eq 18, 3) := by decide +kernel
theorem dX2_isOver_7 : decode cX2_isOver 7 = .ok (.aload_n 0, 1) := by decide +kernel
theorem dX2_isOver_8 : decode cX2_isOver 8 = .ok (.getfield 21, 3) := by decide +kernel
theorem dX2_isOver_11 : decode cX2_isOver 11 = .ok (.aload_n 0, 1) := by decide +kernel
theorem dX2_isOver_12 : decode cX2_isOver 12 = .ok (.invokevirtual 46, 3) := by decide +kernel
theorem dX2_isOver_15 : decode cX2_isOver 15 = .ok (.if_icmp .lt 7, 3) := by decide +kernel
theorem dX2_isOver_18 : decode cX2_isOver 18 = .ok (.iconst 1, 1) := by decide +kernel
theorem dX2_isOver_19 : decode cX2_isOver 19 = .ok (.goto 4, 3) := by decide +kernel
theorem dX2_isOver_22 : decode cX2_isOver 22 = .ok (.iconst 0, 1) := by decide +kernel
theorem dX2_isOver_23 : decode cX2_isOver 23 = .ok (.ireturn, 1) := by decide +kernel
theorem dX2_left_0 : decode cX2_left 0 = .ok (.aload_n 0, 1) := by decide +kernel
theorem dX2_left_1 : decode cX2_left 1 = .ok (.getfield 9, 3) := by decide +kernel
theorem dX2_left_4 : decode cX2_left 4 = .ok (.tableswitch 45 1 3 #[28, 36, 43], 28) := by decide +kernel
theorem dX2_left_32 : decode cX2_left 32 = .ok (.bipush 7, 2) := by decide +kernel
theorem dX2_left_34 : decode cX2_left 34 = .ok (.aload_n 0, 1) := by decide +kernel
theorem dX2_left_35 : decode cX2_left 35 = .ok (.getfield 18, 3) := by decide +kernel
theorem dX2_left_38 : decode cX2_left 38 = .ok (.iadd, 1) := by decide +kernel
theorem dX2_left_39 : decode cX2_left 39 = .ok (.ireturn, 1) := by decide +kernel
theorem dX2_left_40 : decode cX2_left 40 = .ok (.iconst 4, 1) := by decide +kernel
theorem dX2_left_41 : decode cX2_left 41 = .ok (.aload_n 0, 1) := by decide +kernel
theorem dX2_left_42 : decode cX2_left 42 = .ok (.getfield 18, 3) := by decide +kernel
theorem dX2_left_45 : decode cX2_left 45 = .ok (.iadd, 1) := by decide +kernel
theorem dX2_left_46 : decode cX2_left 46 = .ok (.ireturn, 1) := by decide +kernel
theorem dX2_left_47 : decode cX2_left 47 = .ok (.iconst 3, 1) := by decide +kernel
theorem dX2_left_48 : decode cX2_left 48 = .ok (.ireturn, 1) := by decide +kernel
theorem dX2_left_49 : decode cX2_left 49 = .ok (.iconst 0, 1) := by decide +kernel
theorem dX2_left_50 : decode cX2_left 50 = .ok (.ireturn, 1) := by decide +kernel
theorem dX2_markGood_0 : decode cX2_markGood 0 = .ok (.aload_n 0, 1) := by decide +kernel
theorem dX2_markGood_1 : decode cX2_markGood 1 = .ok (.getfield 33, 3) := by decide +kernel
theorem dX2_markGood_4 : decode cX2_markGood 4 = .ok (.iload_n 1, 1) := by decide +kernel
theorem dX2_markGood_5 : decode cX2_markGood 5 = .ok (.dup2, 1) := by decide +kernel
theorem dX2_markGood_6 : decode cX2_markGood 6 = .ok (.laload, 1) := by decide +kernel
theorem dX2_markGood_7 : decode cX2_markGood 7 = .ok (.lconst 1, 1) := by decide +kernel
theorem dX2_markGood_8 : decode cX2_markGood 8 = .ok (.aload_n 0, 1) := by decide +kernel
theorem dX2_markGood_9 : decode cX2_markGood 9 = .ok (.getfield 21, 3) := by decide +kernel
theorem dX2_markGood_12 : decode cX2_markGood 12 = .ok (.lshl, 1) := by decide +kernel
theorem dX2_markGood_13 : decode cX2_markGood 13 = .ok (.lor, 1) := by decide +kernel
theorem dX2_markGood_14 : decode cX2_markGood 14 = .ok (.lastore, 1) := by decide +kernel
theorem dX2_markGood_15 : decode cX2_markGood 15 = .ok (.return_, 1) := by decide +kernel
theorem dX2_areGood_0 : decode cX2_areGood 0 = .ok (.lconst 1, 1) := by decide +kernel
theorem dX2_areGood_1 : decode cX2_areGood 1 = .ok (.iload_n 3, 1) := by decide +kernel
theorem dX2_areGood_2 : decode cX2_areGood 2 = .ok (.lshl, 1) := by decide +kernel
theorem dX2_areGood_3 : decode cX2_areGood 3 = .ok (.lconst 1, 1) := by decide +kernel
theorem dX2_areGood_4 : decode cX2_areGood 4 = .ok (.lsub, 1) := by decide +kernel
theorem dX2_areGood_5 : decode cX2_areGood 5 = .ok (.iload_n 2, 1) := by decide +kernel
theorem dX2_areGood_6 : decode cX2_areGood 6 = .ok (.lshl, 1) := by decide +kernel
theorem dX2_areGood_7 : decode cX2_areGood 7 = .ok (.lstore 4, 2) := by decide +kernel
theorem dX2_areGood_9 : decode cX2_areGood 9 = .ok (.aload_n 0, 1) := by decide +kernel
theorem dX2_areGood_10 : decode cX2_areGood 10 = .ok (.getfield 33, 3) := by decide +kernel
theorem dX2_areGood_13 : decode cX2_areGood 13 = .ok (.iload_n 1, 1) := by decide +kernel
theorem dX2_areGood_14 : decode cX2_areGood 14 = .ok (.laload, 1) := by decide +kernel
theorem dX2_areGood_15 : decode cX2_areGood 15 = .ok (.lload 4, 2) := by decide +kernel
theorem dX2_areGood_17 : decode cX2_areGood 17 = .ok (.land, 1) := by decide +kernel
theorem dX2_areGood_18 : decode cX2_areGood 18 = .ok (.lload 4, 2) := by decide +kernel
theorem dX2_areGood_20 : decode cX2_areGood 20 = .ok (.lcmp, 1) := by decide +kernel
theorem dX2_areGood_21 : decode cX2_areGood 21 = .ok (.ifCond .ne 7, 3) := by decide +kernel
theorem dX2_areGood_24 : decode cX2_areGood 24 = .ok (.iconst 1, 1) := by decide +kernel
theorem dX2_areGood_25 : decode cX2_areGood 25 = .ok (.goto 4, 3) := by decide +kernel
theorem dX2_areGood_28 : decode cX2_areGood 28 = .ok (.iconst 0, 1) := by decide +kernel
theorem dX2_areGood_29 : decode cX2_areGood 29 = .ok (.ireturn, 1) := by decide +kernel
theorem dX2_isReceivedAt_0 : decode cX2_isReceivedAt 0 = .ok (.aload_n 0, 1) := by decide +kernel
theorem dX2_isReceivedAt_1 : decode cX2_isReceivedAt 1 = .ok (.iload_n 1, 1) := by decide +kernel
theorem dX2_isReceivedAt_2 : decode cX2_isReceivedAt 2 = .ok (.iconst 0, 1) := by decide +kernel
theorem dX2_isReceivedAt_3 : decode cX2_isReceivedAt 3 = .ok (.aload_n 0, 1) := by decide +kernel
theorem dX2_isReceivedAt_4 : decode cX2_isReceivedAt 4 = .ok (.getfield 9, 3) := by decide +kernel
theorem dX2_isReceivedAt_7 : decode cX2_isReceivedAt 7 = .ok (.iconst 3, 1) := by decide +kernel
theorem dX2_isReceivedAt_8 : decode cX2_isReceivedAt 8 = .ok (.if_icmp .ne 7, 3) := by decide +kernel
theorem dX2_isReceivedAt_11 : decode cX2_isReceivedAt 11 = .ok (.iconst 1, 1) := by decide +kernel
theorem dX2_isReceivedAt_12 : decode cX2_isReceivedAt 12 = .ok (.goto 4, 3) := by decide +kernel
theorem dX2_isReceivedAt_15 : decode cX2_isReceivedAt 15 = .ok (.iconst 2, 1) := by decide +kernel
theorem dX2_isReceivedAt_16 : decode cX2_isReceivedAt 16 = .ok (.invokevirtual 50, 3) := by decide +kernel
theorem dX2_isReceivedAt_19 : decode cX2_isReceivedAt 19 = .ok (.ireturn, 1) := by decide +kernel
theorem dX3_init_0 : decode cX3_init 0 = .ok (.aload_n 0, 1) := by decide +kernel
theorem dX3_init_1 : decode cX3_init 1 = .ok (.invokespecial 3, 3) := by decide +kernel
theorem dX3_init_4 : decode cX3_init 4 = .ok (.aload_n 0, 1) := by decide +kernel
theorem dX3_init_5 : decode cX3_init 5 = .ok (.bipush 40, 2) := by decide +kernel
theorem dX3_init_7 : decode cX3_init 7 = .ok (.newarray .int, 2) := by decide +kernel
theorem dX3_init_9 : decode cX3_init 9 = .ok (.putfield 9, 3) := by decide +kernel
theorem dX3_init_12 : decode cX3_init 12 = .ok (.aload_n 0, 1) := by decide +kernel
theorem dX3_init_13 : decode cX3_init 13 = .ok (.bipush 40, 2) := by decide +kernel
theorem dX3_init_15 : decode cX3_init 15 = .ok (.newarray .long, 2) := by decide +kernel
theorem dX3_init_17 : decode cX3_init 17 = .ok (.putfield 15, 3) := by decide +kernel
theorem dX3_init_20 : decode cX3_init 20 = .ok (.aload_n 0, 1) := by decide +kernel
theorem dX3_init_21 : decode cX3_init 21 = .ok (.bipush 40, 2) := by decide +kernel
theorem dX3_init_23 : decode cX3_init 23 = .ok (.newarray .long, 2) := by decide +kernel
theorem dX3_init_25 : decode cX3_init 25 = .ok (.putfield 19, 3) := by decide +kernel
theorem dX3_init_28 : decode cX3_init 28 = .ok (.aload_n 0, 1) := by decide +kernel
theorem dX3_init_29 : decode cX3_init 29 = .ok (.iconst 0, 1) := by decide +kernel
theorem dX3_init_30 : decode cX3_init 30 = .ok (.putfield 22, 3) := by decide +kernel
theorem dX3_init_33 : decode cX3_init 33 = .ok (.return_, 1) := by decide +kernel
theorem dX3_isFull_0 : decode cX3_isFull 0 = .ok (.aload_n 0, 1) := by decide +kernel
theorem dX3_isFull_1 : decode cX3_isFull 1 = .ok (.getfield 22, 3) := by decide +kernel
theorem dX3_isFull_4 : decode cX3_isFull 4 = .ok (.bipush 40, 2) := by decide +kernel
theorem dX3_isFull_6 : decode cX3_isFull 6 = .ok (.if_icmp .lt 7, 3) := by decide +kernel
theorem dX3_isFull_9 : decode cX3_isFull 9 = .ok (.iconst 1, 1) := by decide +kernel
theorem dX3_isFull_10 : decode cX3_isFull 10 = .ok (.goto 4, 3) := by decide +kernel
theorem dX3_isFull_13 : decode cX3_isFull 13 = .ok (.iconst 0, 1) := by decide +kernel
theorem dX3_isFull_14 : decode cX3_isFull 14 = .ok (.ireturn, 1) := by decide +kernel
theorem dX3_add_0 : decode cX3_add 0 = .ok (.aload_n 0, 1) := by decide +kernel
theorem dX3_add_1 : decode cX3_add 1 = .ok (.getfield 9, 3) := by decide +kernel
theorem dX3_add_4 : decode cX3_add 4 = .ok (.aload_n 0, 1) := by decide +kernel
theorem dX3_add_5 : decode cX3_add 5 = .ok (.getfield 22, 3) := by decide +kernel
theorem dX3_add_8 : decode cX3_add 8 = .ok (.iload_n 1, 1) := by decide +kernel
theorem dX3_add_9 : decode cX3_add 9 = .ok (.iastore, 1) := by decide +kernel
theorem dX3_add_10 : decode cX3_add 10 = .ok (.aload_n 0, 1) := by decide +kernel
theorem dX3_add_11 : decode cX3_add 11 = .ok (.getfield 15, 3) := by decide +kernel
theorem dX3_add_14 : decode cX3_add 14 = .ok (.aload_n 0, 1) := by decide +kernel
theorem dX3_add_15 : decode cX3_add 15 = .ok (.getfield 22, 3) := by decide +kernel
theorem dX3_add_18 : decode cX3_add 18 = .ok (.lload_n 2, 1) := by decide +kernel
theorem dX3_add_19 : decode cX3_add 19 = .ok (.lastore, 1) := by decide +kernel
theorem dX3_add_20 : decode cX3_add 20 = .ok (.aload_n 0, 1) := by decide +kernel
theorem dX3_add_21 : decode cX3_add 21 = .ok (.getfield 19, 3) := by decide +kernel
theorem dX3_add_24 : decode cX3_add 24 = .ok (.aload_n 0, 1) := by decide +kernel
theorem dX3_add_25 : decode cX3_add 25 = .ok (.getfield 22, 3) := by decide +kernel
theorem dX3_add_28 : decode cX3_add 28 = .ok (.lload_n 2, 1) := by decide +kernel
theorem dX3_add_29 : decode cX3_add 29 = .ok (.iload 4, 2) := by decide +kernel
theorem dX3_add_31 : decode cX3_add 31 = .ok (.i2l, 1) := by decide +kernel
theorem dX3_add_32 : decode cX3_add 32 = .ok (.ladd, 1) := by decide +kernel
theorem dX3_add_33 : decode cX3_add 33 = .ok (.lastore, 1) := by decide +kernel
theorem dX3_add_34 : decode cX3_add 34 = .ok (.aload_n 0, 1) := by decide +kernel
theorem dX3_add_35 : decode cX3_add 35 = .ok (.dup, 1) := by decide +kernel
theorem dX3_add_36 : decode cX3_add 36 = .ok (.getfield 22, 3) := by decide +kernel
theorem dX3_add_39 : decode cX3_add 39 = .ok (.iconst 1, 1) := by decide +kernel
theorem dX3_add_40 : decode cX3_add 40 = .ok (.iadd, 1) := by decide +kernel
theorem dX3_add_41 : decode cX3_add 41 = .ok (.putfield 22, 3) := by decide +kernel
theorem dX3_add_44 : decode cX3_add 44 = .ok (.return_, 1) := by decide +kernel
theorem dX3_cover_0 : decode cX3_cover 0 = .ok (.iconst 0, 1) := by decide +kernel
theorem dX3_cover_1 : decode cX3_cover 1 = .ok (.istore 4, 2) := by decide +kernel
theorem dX3_cover_3 : decode cX3_cover 3 = .ok (.iload 4, 2) := by decide +kernel
theorem dX3_cover_5 : decode cX3_cover 5 = .ok (.aload_n 0, 1) := by decide +kernel
theorem dX3_cover_6 : decode cX3_cover 6 = .ok (.getfield 22, 3) := by decide +kernel
theorem dX3_cover_9 : decode cX3_cover 9 = .ok (.if_icmp .ge 46, 3) := by decide +kernel
theorem dX3_cover_12 : decode cX3_cover 12 = .ok (.aload_n 0, 1) := by decide +kernel
theorem dX3_cover_13 : decode cX3_cover 13 = .ok (.getfield 9, 3) := by decide +kernel
theorem dX3_cover_16 : decode cX3_cover 16 = .ok (.iload 4, 2) := by decide +kernel
theorem dX3_cover_18 : decode cX3_cover 18 = .ok (.iaload, 1) := by decide +kernel
theorem dX3_cover_19 : decode cX3_cover 19 = .ok (.iload_n 1, 1) := by decide +kernel
theorem dX3_cover_20 : decode cX3_cover 20 = .ok (.if_icmp .ne 29, 3) := by decide +kernel
theorem dX3_cover_23 : decode cX3_cover 23 = .ok (.aload_n 0, 1) := by decide +kernel
theorem dX3_cover_24 : decode cX3_cover 24 = .ok (.getfield 15, 3) := by decide +kernel
theorem dX3_cover_27 : decode cX3_cover 27 = .ok (.iload 4, 2) := by decide +kernel
theorem dX3_cover_29 : decode cX3_cover 29 = .ok (.laload, 1) := by decide +kernel
theorem dX3_cover_30 : decode cX3_cover 30 = .ok (.lload_n 2, 1) := by decide +kernel
theorem dX3_cover_31 : decode cX3_cover 31 = .ok (.lcmp, 1) := by decide +kernel
theorem dX3_cover_32 : decode cX3_cover 32 = .ok (.ifCond .gt 17, 3) := by decide +kernel
theorem dX3_cover_35 : decode cX3_cover 35 = .ok (.lload_n 2, 1) := by decide +kernel
theorem dX3_cover_36 : decode cX3_cover 36 = .ok (.aload_n 0, 1) := by decide +kernel
theorem dX3_cover_37 : decode cX3_cover 37 = .ok (.getfield 19, 3) := by decide +kernel
theorem dX3_cover_40 : decode cX3_cover 40 = .ok (.iload 4, 2) := by decide +kernel
theorem dX3_cover_42 : decode cX3_cover 42 = .ok (.laload, 1) := by decide +kernel
theorem dX3_cover_43 : decode cX3_cover 43 = .ok (.lcmp, 1) := by decide +kernel
theorem dX3_cover_44 : decode cX3_cover 44 = .ok (.ifCond .ge 5, 3) := by decide +kernel
theorem dX3_cover_47 : decode cX3_cover 47 = .ok (.iconst 1, 1) := by decide +kernel
theorem dX3_cover_48 : decode cX3_cover 48 = .ok (.ireturn, 1) := by decide +kernel
theorem dX3_cover_49 : decode cX3_cover 49 = .ok (.iinc 4 1, 3) := by decide +kernel
theorem dX3_cover_52 : decode cX3_cover 52 = .ok (.goto (-49), 3) := by decide +kernel
theorem dX3_cover_55 : decode cX3_cover 55 = .ok (.iconst 0, 1) := by decide +kernel
theorem dX3_cover_56 : decode cX3_cover 56 = .ok (.ireturn, 1) := by decide +kernel
theorem dX4_init_0 : decode cX4_init 0 = .ok (.aload_n 0, 1) := by decide +kernel
theorem dX4_init_1 : decode cX4_init 1 = .ok (.invokespecial 3, 3) := by decide +kernel
theorem dX4_init_4 : decode cX4_init 4 = .ok (.aload_n 0, 1) := by decide +kernel
theorem dX4_init_5 : decode cX4_init 5 = .ok (.sipush 301, 3) := by decide +kernel
theorem dX4_init_8 : decode cX4_init 8 = .ok (.newarray .int, 2) := by decide +kernel
theorem dX4_init_10 : decode cX4_init 10 = .ok (.putfield 9, 3) := by decide +kernel
theorem dX4_init_13 : decode cX4_init 13 = .ok (.aload_n 0, 1) := by decide +kernel
theorem dX4_init_14 : decode cX4_init 14 = .ok (.sipush 301, 3) := by decide +kernel
theorem dX4_init_17 : decode cX4_init 17 = .ok (.newarray .int, 2) := by decide +kernel
theorem dX4_init_19 : decode cX4_init 19 = .ok (.putfield 15, 3) := by decide +kernel
theorem dX4_init_22 : decode cX4_init 22 = .ok (.aload_n 0, 1) := by decide +kernel
theorem dX4_init_23 : decode cX4_init 23 = .ok (.sipush 301, 3) := by decide +kernel
theorem dX4_init_26 : decode cX4_init 26 = .ok (.newarray .int, 2) := by decide +kernel
theorem dX4_init_28 : decode cX4_init 28 = .ok (.putfield 18, 3) := by decide +kernel
theorem dX4_init_31 : decode cX4_init 31 = .ok (.aload_n 0, 1) := by decide +kernel
theorem dX4_init_32 : decode cX4_init 32 = .ok (.sipush 301, 3) := by decide +kernel
theorem dX4_init_35 : decode cX4_init 35 = .ok (.newarray .boolean, 2) := by decide +kernel
theorem dX4_init_37 : decode cX4_init 37 = .ok (.putfield 21, 3) := by decide +kernel
theorem dX4_init_40 : decode cX4_init 40 = .ok (.aload_n 0, 1) := by decide +kernel
theorem dX4_init_41 : decode cX4_init 41 = .ok (.iconst 0, 1) := by decide +kernel
theorem dX4_init_42 : decode cX4_init 42 = .ok (.putfield 25, 3) := by decide +kernel
theorem dX4_init_45 : decode cX4_init 45 = .ok (.aload_n 0, 1) := by decide +kernel
theorem dX4_init_46 : decode cX4_init 46 = .ok (.bipush 36, 2) := by decide +kernel
theorem dX4_init_48 : decode cX4_init 48 = .ok (.newarray .int, 2) := by decide +kernel
theorem dX4_init_50 : decode cX4_init 50 = .ok (.putfield 29, 3) := by decide +kernel
theorem dX4_init_53 : decode cX4_init 53 = .ok (.aload_n 0, 1) := by decide +kernel
theorem dX4_init_54 : decode cX4_init 54 = .ok (.bipush 36, 2) := by decide +kernel
theorem dX4_init_56 : decode cX4_init 56 = .ok (.newarray .int, 2) := by decide +kernel
theorem dX4_init_58 : decode cX4_init 58 = .ok (.putfield 32, 3) := by decide +kernel
theorem dX4_init_61 : decode cX4_init 61 = .ok (.return_, 1) := by decide +kernel
theorem dX4_pairOf_0 : decode cX4_pairOf 0 = .ok (.iload_n 1, 1) := by decide +kernel
theorem dX4_pairOf_1 : decode cX4_pairOf 1 = .ok (.bipush 6, 2) := by decide +kernel
theorem dX4_pairOf_3 : decode cX4_pairOf 3 = .ok (.imul, 1) := by decide +kernel
theorem dX4_pairOf_4 : decode cX4_pairOf 4 = .ok (.iload_n 2, 1) := by decide +kernel
theorem dX4_pairOf_5 : decode cX4_pairOf 5 = .ok (.iadd, 1) := by decide +kernel
theorem dX4_pairOf_6 : decode cX4_pairOf 6 = .ok (.ireturn, 1) := by decide +kernel
theorem dX4_isFull_0 : decode cX4_isFull 0 = .ok (.aload_n 0, 1) := by decide +kernel
theorem dX4_isFull_1 : decode cX4_isFull 1 = .ok (.getfield 25, 3) := by decide +kernel
theorem dX4_isFull_4 : decode cX4_isFull 4 = .ok (.sipush 300, 3) := by decide +kernel
theorem dX4_isFull_7 : decode cX4_isFull 7 = .ok (.if_icmp .lt 7, 3) := by decide +kernel
theorem dX4_isFull_10 : decode cX4_isFull 10 = .ok (.iconst 1, 1) := by decide +kernel
theorem dX4_isFull_11 : decode cX4_isFull 11 = .ok (.goto 4, 3) := by decide +kernel
theorem dX4_isFull_14 : decode cX4_isFull 14 = .ok (.iconst 0, 1) := by decide +kernel
theorem dX4_isFull_15 : decode cX4_isFull 15 = .ok (.ireturn, 1) := by decide +kernel
theorem dX4_add_0 : decode cX4_add 0 = .ok (.aload_n 0, 1) := by decide +kernel
theorem dX4_add_1 : decode cX4_add 1 = .ok (.dup, 1) := by decide +kernel
theorem dX4_add_2 : decode cX4_add 2 = .ok (.getfield 25, 3) := by decide +kernel
theorem dX4_add_5 : decode cX4_add 5 = .ok (.iconst 1, 1) := by decide +kernel
theorem dX4_add_6 : decode cX4_add 6 = .ok (.iadd, 1) := by decide +kernel
theorem dX4_add_7 : decode cX4_add 7 = .ok (.putfield 25, 3) := by decide +kernel
theorem dX4_add_10 : decode cX4_add 10 = .ok (.aload_n 0, 1) := by decide +kernel
theorem dX4_add_11 : decode cX4_add 11 = .ok (.getfield 9, 3) := by decide +kernel
theorem dX4_add_14 : decode cX4_add 14 = .ok (.aload_n 0, 1) := by decide +kernel
theorem dX4_add_15 : decode cX4_add 15 = .ok (.getfield 25, 3) := by decide +kernel
theorem dX4_add_18 : decode cX4_add 18 = .ok (.aload_n 0, 1) := by decide +kernel
theorem dX4_add_19 : decode cX4_add 19 = .ok (.iload_n 1, 1) := by decide +kernel
theorem dX4_add_20 : decode cX4_add 20 = .ok (.iload_n 2, 1) := by decide +kernel
theorem dX4_add_21 : decode cX4_add 21 = .ok (.invokevirtual 35, 3) := by decide +kernel
theorem dX4_add_24 : decode cX4_add 24 = .ok (.iastore, 1) := by decide +kernel
theorem dX4_add_25 : decode cX4_add 25 = .ok (.aload_n 0, 1) := by decide +kernel
theorem dX4_add_26 : decode cX4_add 26 = .ok (.getfield 15, 3) := by decide +kernel
theorem dX4_add_29 : decode cX4_add 29 = .ok (.aload_n 0, 1) := by decide +kernel
theorem dX4_add_30 : decode cX4_add 30 = .ok (.getfield 25, 3) := by decide +kernel
theorem dX4_add_33 : decode cX4_add 33 = .ok (.iload_n 3, 1) := by decide +kernel
theorem dX4_add_34 : decode cX4_add 34 = .ok (.iastore, 1) := by decide +kernel
theorem dX4_add_35 : decode cX4_add 35 = .ok (.aload_n 0, 1) := by decide +kernel
theorem dX4_add_36 : decode cX4_add 36 = .ok (.getfield 18, 3) := by decide +kernel
theorem dX4_add_39 : decode cX4_add 39 = .ok (.aload_n 0, 1) := by decide +kernel
theorem dX4_add_40 : decode cX4_add 40 = .ok (.getfield 25, 3) := by decide +kernel
theorem dX4_add_43 : decode cX4_add 43 = .ok (.aload_n 0, 1) := by decide +kernel
theorem dX4_add_44 : decode cX4_add 44 = .ok (.getfield 29, 3) := by decide +kernel
theorem dX4_add_47 : decode cX4_add 47 = .ok (.aload_n 0, 1) := by decide +kernel
theorem dX4_add_48 : decode cX4_add 48 = .ok (.getfield 9, 3) := by decide +kernel
theorem dX4_add_51 : decode cX4_add 51 = .ok (.aload_n 0, 1) := by decide +kernel
theorem dX4_add_52 : decode cX4_add 52 = .ok (.getfield 25, 3) := by decide +kernel
theorem dX4_add_55 : decode cX4_add 55 = .ok (.iaload, 1) := by decide +kernel
theorem dX4_add_56 : decode cX4_add 56 = .ok (.iaload, 1) := by decide +kernel
theorem dX4_add_57 : decode cX4_add 57 = .ok (.iastore, 1) := by decide +kernel
theorem dX4_add_58 : decode cX4_add 58 = .ok (.aload_n 0, 1) := by decide +kernel
theorem dX4_add_59 : decode cX4_add 59 = .ok (.getfield 29, 3) := by decide +kernel
theorem dX4_add_62 : decode cX4_add 62 = .ok (.aload_n 0, 1) := by decide +kernel
theorem dX4_add_63 : decode cX4_add 63 = .ok (.getfield 9, 3) := by decide +kernel
theorem dX4_add_66 : decode cX4_add 66 = .ok (.aload_n 0, 1) := by decide +kernel
theorem dX4_add_67 : decode cX4_add 67 = .ok (.getfield 25, 3) := by decide +kernel
theorem dX4_add_70 : decode cX4_add 70 = .ok (.iaload, 1) := by decide +kernel
theorem dX4_add_71 : decode cX4_add 71 = .ok (.dup2, 1) := by decide +kernel
theorem dX4_add_72 : decode cX4_add 72 = .ok (.iaload, 1) := by decide +kernel
theorem dX4_add_73 : decode cX4_add 73 = .ok (.iconst 1, 1) := by decide +kernel
theorem dX4_add_74 : decode cX4_add 74 = .ok (.iadd, 1) := by decide +kernel
theorem dX4_add_75 : decode cX4_add 75 = .ok (.iastore, 1) := by decide +kernel
theorem dX4_add_76 : decode cX4_add 76 = .ok (.aload_n 0, 1) := by decide +kernel
theorem dX4_add_77 : decode cX4_add 77 = .ok (.getfield 25, 3) := by decide +kernel
theorem dX4_add_80 : decode cX4_add 80 = .ok (.ireturn, 1) := by decide +kernel
theorem dX4_numberOf_0 : decode cX4_numberOf 0 = .ok (.aload_n 0, 1) := by decide +kernel
theorem dX4_numberOf_1 : decode cX4_numberOf 1 = .ok (.getfield 18, 3) := by decide +kernel
theorem dX4_numberOf_4 : decode cX4_numberOf 4 = .ok (.iload_n 1, 1) := by decide +kernel
theorem dX4_numberOf_5 : decode cX4_numberOf 5 = .ok (.iaload, 1) := by decide +kernel
theorem dX4_numberOf_6 : decode cX4_numberOf 6 = .ok (.ireturn, 1) := by decide +kernel
theorem dX4_receiverOf_0 : decode cX4_receiverOf 0 = .ok (.aload_n 0, 1) := by decide +kernel
theorem dX4_receiverOf_1 : decode cX4_receiverOf 1 = .ok (.getfield 9, 3) := by decide +kernel
theorem dX4_receiverOf_4 : decode cX4_receiverOf 4 = .ok (.aload_n 1, 1) := by decide +kernel
theorem dX4_receiverOf_5 : decode cX4_receiverOf 5 = .ok (.iconst 0, 1) := by decide +kernel
theorem dX4_receiverOf_6 : decode cX4_receiverOf 6 = .ok (.invokevirtual 39, 3) := by decide +kernel
theorem dX4_receiverOf_9 : decode cX4_receiverOf 9 = .ok (.iaload, 1) := by decide +kernel
theorem dX4_receiverOf_10 : decode cX4_receiverOf 10 = .ok (.bipush 6, 2) := by decide +kernel
theorem dX4_receiverOf_12 : decode cX4_receiverOf 12 = .ok (.irem, 1) := by decide +kernel
theorem dX4_receiverOf_13 : decode cX4_receiverOf 13 = .ok (.ireturn, 1) := by decide +kernel
theorem dX4_dataSlotsOf_0 : decode cX4_dataSlotsOf 0 = .ok (.iconst 1, 1) := by decide +kernel
theorem dX4_dataSlotsOf_1 : decode cX4_dataSlotsOf 1 = .ok (.istore_n 2, 1) := by decide +kernel
theorem dX4_dataSlotsOf_2 : decode cX4_dataSlotsOf 2 = .ok (.iconst 0, 1) := by decide +kernel
theorem dX4_dataSlotsOf_3 : decode cX4_dataSlotsOf 3 = .ok (.istore_n 3, 1) := by decide +kernel
theorem dX4_dataSlotsOf_4 : decode cX4_dataSlotsOf 4 = .ok (.iload_n 3, 1) := by decide +kernel
theorem dX4_dataSlotsOf_5 : decode cX4_dataSlotsOf 5 = .ok (.aload_n 1, 1) := by decide +kernel
theorem dX4_dataSlotsOf_6 : decode cX4_dataSlotsOf 6 = .ok (.getfield 45, 3) := by decide +kernel
theorem dX4_dataSlotsOf_9 : decode cX4_dataSlotsOf 9 = .ok (.if_icmp .ge 22, 3) := by decide +kernel
theorem dX4_dataSlotsOf_12 : decode cX4_dataSlotsOf 12 = .ok (.iload_n 2, 1) := by decide +kernel
theorem dX4_dataSlotsOf_13 : decode cX4_dataSlotsOf 13 = .ok (.aload_n 0, 1) := by decide +kernel
theorem dX4_dataSlotsOf_14 : decode cX4_dataSlotsOf 14 = .ok (.getfield 15, 3) := by decide +kernel
theorem dX4_dataSlotsOf_17 : decode cX4_dataSlotsOf 17 = .ok (.aload_n 1, 1) := by decide +kernel
theorem dX4_dataSlotsOf_18 : decode cX4_dataSlotsOf 18 = .ok (.iload_n 3, 1) := by decide +kernel
theorem dX4_dataSlotsOf_19 : decode cX4_dataSlotsOf 19 = .ok (.invokevirtual 39, 3) := by decide +kernel
theorem dX4_dataSlotsOf_22 : decode cX4_dataSlotsOf 22 = .ok (.iaload, 1) := by decide +kernel
theorem dX4_dataSlotsOf_23 : decode cX4_dataSlotsOf 23 = .ok (.iadd, 1) := by decide +kernel
theorem dX4_dataSlotsOf_24 : decode cX4_dataSlotsOf 24 = .ok (.istore_n 2, 1) := by decide +kernel
theorem dX4_dataSlotsOf_25 : decode cX4_dataSlotsOf 25 = .ok (.iinc 3 1, 3) := by decide +kernel
theorem dX4_dataSlotsOf_28 : decode cX4_dataSlotsOf 28 = .ok (.goto (-24), 3) := by decide +kernel
theorem dX4_dataSlotsOf_31 : decode cX4_dataSlotsOf 31 = .ok (.iload_n 2, 1) := by decide +kernel
theorem dX4_dataSlotsOf_32 : decode cX4_dataSlotsOf 32 = .ok (.ireturn, 1) := by decide +kernel
theorem dX4_copyFirstOfOneReceiver_0 : decode cX4_copyFirstOfOneReceiver 0 = .ok (.aload_n 2, 1) := by decide +kernel
theorem dX4_copyFirstOfOneReceiver_1 : decode cX4_copyFirstOfOneReceiver 1 = .ok (.iconst 0, 1) := by decide +kernel
theorem dX4_copyFirstOfOneReceiver_2 : decode cX4_copyFirstOfOneReceiver 2 = .ok (.putfield 45, 3) := by decide +kernel
theorem dX4_copyFirstOfOneReceiver_5 : decode cX4_copyFirstOfOneReceiver 5 = .ok (.iconst 0, 1) := by decide +kernel
theorem dX4_copyFirstOfOneReceiver_6 : decode cX4_copyFirstOfOneReceiver 6 = .ok (.istore_n 3, 1) := by decide +kernel
theorem dX4_copyFirstOfOneReceiver_7 : decode cX4_copyFirstOfOneReceiver 7 = .ok (.iload_n 3, 1) := by decide +kernel
theorem dX4_copyFirstOfOneReceiver_8 : decode cX4_copyFirstOfOneReceiver 8 = .ok (.aload_n 1, 1) := by decide +kernel
theorem dX4_copyFirstOfOneReceiver_9 : decode cX4_copyFirstOfOneReceiver 9 = .ok (.getfield 45, 3) := by decide +kernel
theorem dX4_copyFirstOfOneReceiver_12 : decode cX4_copyFirstOfOneReceiver 12 = .ok (.if_icmp .ge 48, 3) := by decide +kernel
theorem dX4_copyFirstOfOneReceiver_15 : decode cX4_copyFirstOfOneReceiver 15 = .ok (.aload_n 2, 1) := by decide +kernel
theorem dX4_copyFirstOfOneReceiver_16 : decode cX4_copyFirstOfOneReceiver 16 = .ok (.invokevirtual 46, 3) := by decide +kernel
theorem dX4_copyFirstOfOneReceiver_19 : decode cX4_copyFirstOfOneReceiver 19 = .ok (.ifCond .ne 41, 3) := by decide +kernel
theorem dX4_copyFirstOfOneReceiver_22 : decode cX4_copyFirstOfOneReceiver 22 = .ok (.aload_n 0, 1) := by decide +kernel
theorem dX4_copyFirstOfOneReceiver_23 : decode cX4_copyFirstOfOneReceiver 23 = .ok (.getfield 9, 3) := by decide +kernel
theorem dX4_copyFirstOfOneReceiver_26 : decode cX4_copyFirstOfOneReceiver 26 = .ok (.aload_n 1, 1) := by decide +kernel
theorem dX4_copyFirstOfOneReceiver_27 : decode cX4_copyFirstOfOneReceiver 27 = .ok (.iload_n 3, 1) := by decide +kernel
theorem dX4_copyFirstOfOneReceiver_28 : decode cX4_copyFirstOfOneReceiver 28 = .ok (.invokevirtual 39, 3) := by decide +kernel
theorem dX4_copyFirstOfOneReceiver_31 : decode cX4_copyFirstOfOneReceiver 31 = .ok (.iaload, 1) := by decide +kernel
theorem dX4_copyFirstOfOneReceiver_32 : decode cX4_copyFirstOfOneReceiver 32 = .ok (.aload_n 0, 1) := by decide +kernel
theorem dX4_copyFirstOfOneReceiver_33 : decode cX4_copyFirstOfOneReceiver 33 = .ok (.getfield 9, 3) := by decide +kernel
theorem dX4_copyFirstOfOneReceiver_36 : decode cX4_copyFirstOfOneReceiver 36 = .ok (.aload_n 1, 1) := by decide +kernel
theorem dX4_copyFirstOfOneReceiver_37 : decode cX4_copyFirstOfOneReceiver 37 = .ok (.iconst 0, 1) := by decide +kernel
theorem dX4_copyFirstOfOneReceiver_38 : decode cX4_copyFirstOfOneReceiver 38 = .ok (.invokevirtual 39, 3) := by decide +kernel
theorem dX4_copyFirstOfOneReceiver_41 : decode cX4_copyFirstOfOneReceiver 41 = .ok (.iaload, 1) := by decide +kernel
theorem dX4_copyFirstOfOneReceiver_42 : decode cX4_copyFirstOfOneReceiver 42 = .ok (.if_icmp .ne 18, 3) := by decide +kernel
theorem dX4_copyFirstOfOneReceiver_45 : decode cX4_copyFirstOfOneReceiver 45 = .ok (.aload_n 2, 1) := by decide +kernel
theorem dX4_copyFirstOfOneReceiver_46 : decode cX4_copyFirstOfOneReceiver 46 = .ok (.aload_n 1, 1) := by decide +kernel
theorem dX4_copyFirstOfOneReceiver_47 : decode cX4_copyFirstOfOneReceiver 47 = .ok (.iload_n 3, 1) := by decide +kernel
theorem dX4_copyFirstOfOneReceiver_48 : decode cX4_copyFirstOfOneReceiver 48 = .ok (.invokevirtual 39, 3) := by decide +kernel
theorem dX4_copyFirstOfOneReceiver_51 : decode cX4_copyFirstOfOneReceiver 51 = .ok (.invokevirtual 50, 3) := by decide +kernel
theorem dX4_copyFirstOfOneReceiver_54 : decode cX4_copyFirstOfOneReceiver 54 = .ok (.iinc 3 1, 3) := by decide +kernel
theorem dX4_copyFirstOfOneReceiver_57 : decode cX4_copyFirstOfOneReceiver 57 = .ok (.goto (-50), 3) := by decide +kernel
theorem dX4_copyFirstOfOneReceiver_60 : decode cX4_copyFirstOfOneReceiver 60 = .ok (.return_, 1) := by decide +kernel
theorem dX4_copyGood_0 : decode cX4_copyGood 0 = .ok (.aload_n 3, 1) := by decide +kernel
theorem dX4_copyGood_1 : decode cX4_copyGood 1 = .ok (.iconst 0, 1) := by decide +kernel
theorem dX4_copyGood_2 : decode cX4_copyGood 2 = .ok (.putfield 45, 3) := by decide +kernel
theorem dX4_copyGood_5 : decode cX4_copyGood 5 = .ok (.iconst 1, 1) := by decide +kernel
theorem dX4_copyGood_6 : decode cX4_copyGood 6 = .ok (.istore 4, 2) := by decide +kernel
theorem dX4_copyGood_8 : decode cX4_copyGood 8 = .ok (.iconst 0, 1) := by decide +kernel
theorem dX4_copyGood_9 : decode cX4_copyGood 9 = .ok (.istore 5, 2) := by decide +kernel
theorem dX4_copyGood_11 : decode cX4_copyGood 11 = .ok (.iload 5, 2) := by decide +kernel
theorem dX4_copyGood_13 : decode cX4_copyGood 13 = .ok (.aload_n 1, 1) := by decide +kernel
theorem dX4_copyGood_14 : decode cX4_copyGood 14 = .ok (.getfield 54, 3) := by decide +kernel
theorem dX4_copyGood_17 : decode cX4_copyGood 17 = .ok (.getfield 45, 3) := by decide +kernel
theorem dX4_copyGood_20 : decode cX4_copyGood 20 = .ok (.if_icmp .ge 55, 3) := by decide +kernel
theorem dX4_copyGood_23 : decode cX4_copyGood 23 = .ok (.aload_n 1, 1) := by decide +kernel
theorem dX4_copyGood_24 : decode cX4_copyGood 24 = .ok (.getfield 54, 3) := by decide +kernel
theorem dX4_copyGood_27 : decode cX4_copyGood 27 = .ok (.iload 5, 2) := by decide +kernel
theorem dX4_copyGood_29 : decode cX4_copyGood 29 = .ok (.invokevirtual 39, 3) := by decide +kernel
theorem dX4_copyGood_32 : decode cX4_copyGood 32 = .ok (.istore 6, 2) := by decide +kernel
theorem dX4_copyGood_34 : decode cX4_copyGood 34 = .ok (.aload_n 1, 1) := by decide +kernel
theorem dX4_copyGood_35 : decode cX4_copyGood 35 = .ok (.iload_n 2, 1) := by decide +kernel
theorem dX4_copyGood_36 : decode cX4_copyGood 36 = .ok (.iload 4, 2) := by decide +kernel
theorem dX4_copyGood_38 : decode cX4_copyGood 38 = .ok (.aload_n 0, 1) := by decide +kernel
theorem dX4_copyGood_39 : decode cX4_copyGood 39 = .ok (.getfield 15, 3) := by decide +kernel
theorem dX4_copyGood_42 : decode cX4_copyGood 42 = .ok (.iload 6, 2) := by decide +kernel
theorem dX4_copyGood_44 : decode cX4_copyGood 44 = .ok (.iaload, 1) := by decide +kernel
theorem dX4_copyGood_45 : decode cX4_copyGood 45 = .ok (.invokevirtual 60, 3) := by decide +kernel
theorem dX4_copyGood_48 : decode cX4_copyGood 48 = .ok (.ifCond .eq 9, 3) := by decide +kernel
theorem dX4_copyGood_51 : decode cX4_copyGood 51 = .ok (.aload_n 3, 1) := by decide +kernel
theorem dX4_copyGood_52 : decode cX4_copyGood 52 = .ok (.iload 6, 2) := by decide +kernel
theorem dX4_copyGood_54 : decode cX4_copyGood 54 = .ok (.invokevirtual 50, 3) := by decide +kernel
theorem dX4_copyGood_57 : decode cX4_copyGood 57 = .ok (.iload 4, 2) := by decide +kernel
theorem dX4_copyGood_59 : decode cX4_copyGood 59 = .ok (.aload_n 0, 1) := by decide +kernel
theorem dX4_copyGood_60 : decode cX4_copyGood 60 = .ok (.getfield 15, 3) := by decide +kernel
theorem dX4_copyGood_63 : decode cX4_copyGood 63 = .ok (.iload 6, 2) := by decide +kernel
theorem dX4_copyGood_65 : decode cX4_copyGood 65 = .ok (.iaload, 1) := by decide +kernel
theorem dX4_copyGood_66 : decode cX4_copyGood 66 = .ok (.iadd, 1) := by decide +kernel
theorem dX4_copyGood_67 : decode cX4_copyGood 67 = .ok (.istore 4, 2) := by decide +kernel
theorem dX4_copyGood_69 : decode cX4_copyGood 69 = .ok (.iinc 5 1, 3) := by decide +kernel
theorem dX4_copyGood_72 : decode cX4_copyGood 72 = .ok (.goto (-61), 3) := by decide +kernel
theorem dX4_copyGood_75 : decode cX4_copyGood 75 = .ok (.return_, 1) := by decide +kernel
theorem dX4_wantAtLeast_0 : decode cX4_wantAtLeast 0 = .ok (.aload_n 0, 1) := by decide +kernel
theorem dX4_wantAtLeast_1 : decode cX4_wantAtLeast 1 = .ok (.getfield 32, 3) := by decide +kernel
theorem dX4_wantAtLeast_4 : decode cX4_wantAtLeast 4 = .ok (.iload_n 1, 1) := by decide +kernel
theorem dX4_wantAtLeast_5 : decode cX4_wantAtLeast 5 = .ok (.aload_n 0, 1) := by decide +kernel
theorem dX4_wantAtLeast_6 : decode cX4_wantAtLeast 6 = .ok (.getfield 32, 3) := by decide +kernel
theorem dX4_wantAtLeast_9 : decode cX4_wantAtLeast 9 = .ok (.iload_n 1, 1) := by decide +kernel
theorem dX4_wantAtLeast_10 : decode cX4_wantAtLeast 10 = .ok (.iaload, 1) := by decide +kernel
theorem dX4_wantAtLeast_11 : decode cX4_wantAtLeast 11 = .ok (.iload_n 2, 1) := by decide +kernel
theorem dX4_wantAtLeast_12 : decode cX4_wantAtLeast 12 = .ok (.invokestatic 64, 3) := by decide +kernel
theorem dX4_wantAtLeast_15 : decode cX4_wantAtLeast 15 = .ok (.iastore, 1) := by decide +kernel
theorem dX4_wantAtLeast_16 : decode cX4_wantAtLeast 16 = .ok (.return_, 1) := by decide +kernel
theorem dX4_hold_0 : decode cX4_hold 0 = .ok (.aload_n 0, 1) := by decide +kernel
theorem dX4_hold_1 : decode cX4_hold 1 = .ok (.getfield 18, 3) := by decide +kernel
theorem dX4_hold_4 : decode cX4_hold 4 = .ok (.iload_n 2, 1) := by decide +kernel
theorem dX4_hold_5 : decode cX4_hold 5 = .ok (.iaload, 1) := by decide +kernel
theorem dX4_hold_6 : decode cX4_hold 6 = .ok (.aload_n 0, 1) := by decide +kernel
theorem dX4_hold_7 : decode cX4_hold 7 = .ok (.getfield 32, 3) := by decide +kernel
theorem dX4_hold_10 : decode cX4_hold 10 = .ok (.iload_n 1, 1) := by decide +kernel
theorem dX4_hold_11 : decode cX4_hold 11 = .ok (.iaload, 1) := by decide +kernel
theorem dX4_hold_12 : decode cX4_hold 12 = .ok (.if_icmp .lt 10, 3) := by decide +kernel
theorem dX4_hold_15 : decode cX4_hold 15 = .ok (.aload_n 0, 1) := by decide +kernel
theorem dX4_hold_16 : decode cX4_hold 16 = .ok (.getfield 21, 3) := by decide +kernel
theorem dX4_hold_19 : decode cX4_hold 19 = .ok (.iload_n 2, 1) := by decide +kernel
theorem dX4_hold_20 : decode cX4_hold 20 = .ok (.iconst 1, 1) := by decide +kernel
theorem dX4_hold_21 : decode cX4_hold 21 = .ok (.bastore, 1) := by decide +kernel
theorem dX4_hold_22 : decode cX4_hold 22 = .ok (.return_, 1) := by decide +kernel
theorem dX4_releases_0 : decode cX4_releases 0 = .ok (.aload_n 0, 1) := by decide +kernel
theorem dX4_releases_1 : decode cX4_releases 1 = .ok (.getfield 21, 3) := by decide +kernel
theorem dX4_releases_4 : decode cX4_releases 4 = .ok (.iload_n 2, 1) := by decide +kernel
theorem dX4_releases_5 : decode cX4_releases 5 = .ok (.baload, 1) := by decide +kernel
theorem dX4_releases_6 : decode cX4_releases 6 = .ok (.ifCond .eq 28, 3) := by decide +kernel
theorem dX4_releases_9 : decode cX4_releases 9 = .ok (.aload_n 0, 1) := by decide +kernel
theorem dX4_releases_10 : decode cX4_releases 10 = .ok (.getfield 9, 3) := by decide +kernel
theorem dX4_releases_13 : decode cX4_releases 13 = .ok (.iload_n 2, 1) := by decide +kernel
theorem dX4_releases_14 : decode cX4_releases 14 = .ok (.iaload, 1) := by decide +kernel
theorem dX4_releases_15 : decode cX4_releases 15 = .ok (.iload_n 1, 1) := by decide +kernel
theorem dX4_releases_16 : decode cX4_releases 16 = .ok (.if_icmp .ne 18, 3) := by decide +kernel
theorem dX4_releases_19 : decode cX4_releases 19 = .ok (.aload_n 0, 1) := by decide +kernel
theorem dX4_releases_20 : decode cX4_releases 20 = .ok (.getfield 18, 3) := by decide +kernel
theorem dX4_releases_23 : decode cX4_releases 23 = .ok (.iload_n 2, 1) := by decide +kernel
theorem dX4_releases_24 : decode cX4_releases 24 = .ok (.iaload, 1) := by decide +kernel
theorem dX4_releases_25 : decode cX4_releases 25 = .ok (.aload_n 0, 1) := by decide +kernel
theorem dX4_releases_26 : decode cX4_releases 26 = .ok (.getfield 32, 3) := by decide +kernel
theorem dX4_releases_29 : decode cX4_releases 29 = .ok (.iload_n 1, 1) := by decide +kernel
theorem dX4_releases_30 : decode cX4_releases 30 = .ok (.iaload, 1) := by decide +kernel
theorem dX4_releases_31 : decode cX4_releases 31 = .ok (.if_icmp .le 5, 3) := by decide +kernel
theorem dX4_releases_34 : decode cX4_releases 34 = .ok (.iconst 0, 1) := by decide +kernel
theorem dX4_releases_35 : decode cX4_releases 35 = .ok (.ireturn, 1) := by decide +kernel
theorem dX4_releases_36 : decode cX4_releases 36 = .ok (.aload_n 0, 1) := by decide +kernel
theorem dX4_releases_37 : decode cX4_releases 37 = .ok (.getfield 21, 3) := by decide +kernel
theorem dX4_releases_40 : decode cX4_releases 40 = .ok (.iload_n 2, 1) := by decide +kernel
theorem dX4_releases_41 : decode cX4_releases 41 = .ok (.iconst 0, 1) := by decide +kernel
theorem dX4_releases_42 : decode cX4_releases 42 = .ok (.bastore, 1) := by decide +kernel
theorem dX4_releases_43 : decode cX4_releases 43 = .ok (.aload_n 0, 1) := by decide +kernel
theorem dX4_releases_44 : decode cX4_releases 44 = .ok (.getfield 18, 3) := by decide +kernel
theorem dX4_releases_47 : decode cX4_releases 47 = .ok (.iload_n 2, 1) := by decide +kernel
theorem dX4_releases_48 : decode cX4_releases 48 = .ok (.iaload, 1) := by decide +kernel
theorem dX4_releases_49 : decode cX4_releases 49 = .ok (.aload_n 0, 1) := by decide +kernel
theorem dX4_releases_50 : decode cX4_releases 50 = .ok (.getfield 32, 3) := by decide +kernel
theorem dX4_releases_53 : decode cX4_releases 53 = .ok (.iload_n 1, 1) := by decide +kernel
theorem dX4_releases_54 : decode cX4_releases 54 = .ok (.iaload, 1) := by decide +kernel
theorem dX4_releases_55 : decode cX4_releases 55 = .ok (.if_icmp .ne 13, 3) := by decide +kernel
theorem dX4_releases_58 : decode cX4_releases 58 = .ok (.aload_n 0, 1) := by decide +kernel
theorem dX4_releases_59 : decode cX4_releases 59 = .ok (.getfield 32, 3) := by decide +kernel
theorem dX4_releases_62 : decode cX4_releases 62 = .ok (.iload_n 1, 1) := by decide +kernel
theorem dX4_releases_63 : decode cX4_releases 63 = .ok (.dup2, 1) := by decide +kernel
theorem dX4_releases_64 : decode cX4_releases 64 = .ok (.iaload, 1) := by decide +kernel
theorem dX4_releases_65 : decode cX4_releases 65 = .ok (.iconst 1, 1) := by decide +kernel
theorem dX4_releases_66 : decode cX4_releases 66 = .ok (.iadd, 1) := by decide +kernel
theorem dX4_releases_67 : decode cX4_releases 67 = .ok (.iastore, 1) := by decide +kernel
theorem dX4_releases_68 : decode cX4_releases 68 = .ok (.iconst 1, 1) := by decide +kernel
theorem dX4_releases_69 : decode cX4_releases 69 = .ok (.ireturn, 1) := by decide +kernel
theorem dX5_init_0 : decode cX5_init 0 = .ok (.aload_n 0, 1) := by decide +kernel
theorem dX5_init_1 : decode cX5_init 1 = .ok (.invokespecial 1, 3) := by decide +kernel
theorem dX5_init_4 : decode cX5_init 4 = .ok (.aload_n 0, 1) := by decide +kernel
theorem dX5_init_5 : decode cX5_init 5 = .ok (.iconst 0, 1) := by decide +kernel
theorem dX5_init_6 : decode cX5_init 6 = .ok (.putfield 7, 3) := by decide +kernel
theorem dX5_init_9 : decode cX5_init 9 = .ok (.aload_n 0, 1) := by decide +kernel
theorem dX5_init_10 : decode cX5_init 10 = .ok (.iload_n 1, 1) := by decide +kernel
theorem dX5_init_11 : decode cX5_init 11 = .ok (.newarray .int, 2) := by decide +kernel
theorem dX5_init_13 : decode cX5_init 13 = .ok (.putfield 13, 3) := by decide +kernel
theorem dX5_init_16 : decode cX5_init 16 = .ok (.return_, 1) := by decide +kernel
theorem dX5_isFull_0 : decode cX5_isFull 0 = .ok (.aload_n 0, 1) := by decide +kernel
theorem dX5_isFull_1 : decode cX5_isFull 1 = .ok (.getfield 7, 3) := by decide +kernel
theorem dX5_isFull_4 : decode cX5_isFull 4 = .ok (.aload_n 0, 1) := by decide +kernel
theorem dX5_isFull_5 : decode cX5_isFull 5 = .ok (.getfield 13, 3) := by decide +kernel
theorem dX5_isFull_8 : decode cX5_isFull 8 = .ok (.arraylength, 1) := by decide +kernel
theorem dX5_isFull_9 : decode cX5_isFull 9 = .ok (.if_icmp .lt 7, 3) := by decide +kernel
theorem dX5_isFull_12 : decode cX5_isFull 12 = .ok (.iconst 1, 1) := by decide +kernel
theorem dX5_isFull_13 : decode cX5_isFull 13 = .ok (.goto 4, 3) := by decide +kernel
theorem dX5_isFull_16 : decode cX5_isFull 16 = .ok (.iconst 0, 1) := by decide +kernel
theorem dX5_isFull_17 : decode cX5_isFull 17 = .ok (.ireturn, 1) := by decide +kernel
theorem dX5_get_0 : decode cX5_get 0 = .ok (.iload_n 1, 1) := by decide +kernel
theorem dX5_get_1 : decode cX5_get 1 = .ok (.ifCond .lt 20, 3) := by decide +kernel
theorem dX5_get_4 : decode cX5_get 4 = .ok (.iload_n 1, 1) := by decide +kernel
theorem dX5_get_5 : decode cX5_get 5 = .ok (.aload_n 0, 1) := by decide +kernel
theorem dX5_get_6 : decode cX5_get 6 = .ok (.getfield 7, 3) := by decide +kernel
theorem dX5_get_9 : decode cX5_get 9 = .ok (.if_icmp .ge 12, 3) := by decide +kernel
theorem dX5_get_12 : decode cX5_get 12 = .ok (.aload_n 0, 1) := by decide +kernel
theorem dX5_get_13 : decode cX5_get 13 = .ok (.getfield 13, 3) := by decide +kernel
theorem dX5_get_16 : decode cX5_get 16 = .ok (.iload_n 1, 1) := by decide +kernel
theorem dX5_get_17 : decode cX5_get 17 = .ok (.iaload, 1) := by decide +kernel
theorem dX5_get_18 : decode cX5_get 18 = .ok (.goto 4, 3) := by decide +kernel
theorem dX5_get_21 : decode cX5_get 21 = .ok (.iconst 0, 1) := by decide +kernel
theorem dX5_get_22 : decode cX5_get 22 = .ok (.ireturn, 1) := by decide +kernel
theorem dX5_add_0 : decode cX5_add 0 = .ok (.aload_n 0, 1) := by decide +kernel
theorem dX5_add_1 : decode cX5_add 1 = .ok (.invokevirtual 17, 3) := by decide +kernel
theorem dX5_add_4 : decode cX5_add 4 = .ok (.ifCond .ne 23, 3) := by decide +kernel
theorem dX5_add_7 : decode cX5_add 7 = .ok (.aload_n 0, 1) := by decide +kernel
theorem dX5_add_8 : decode cX5_add 8 = .ok (.getfield 13, 3) := by decide +kernel
theorem dX5_add_11 : decode cX5_add 11 = .ok (.aload_n 0, 1) := by decide +kernel
theorem dX5_add_12 : decode cX5_add 12 = .ok (.getfield 7, 3) := by decide +kernel
theorem dX5_add_15 : decode cX5_add 15 = .ok (.iload_n 1, 1) := by decide +kernel
theorem dX5_add_16 : decode cX5_add 16 = .ok (.iastore, 1) := by decide +kernel
theorem dX5_add_17 : decode cX5_add 17 = .ok (.aload_n 0, 1) := by decide +kernel
theorem dX5_add_18 : decode cX5_add 18 = .ok (.dup, 1) := by decide +kernel
theorem dX5_add_19 : decode cX5_add 19 = .ok (.getfield 7, 3) := by decide +kernel
theorem dX5_add_22 : decode cX5_add 22 = .ok (.iconst 1, 1) := by decide +kernel
theorem dX5_add_23 : decode cX5_add 23 = .ok (.iadd, 1) := by decide +kernel
theorem dX5_add_24 : decode cX5_add 24 = .ok (.putfield 7, 3) := by decide +kernel
theorem dX5_add_27 : decode cX5_add 27 = .ok (.return_, 1) := by decide +kernel
theorem dX5_copy_0 : decode cX5_copy 0 = .ok (.aload_n 0, 1) := by decide +kernel
theorem dX5_copy_1 : decode cX5_copy 1 = .ok (.iconst 0, 1) := by decide +kernel
theorem dX5_copy_2 : decode cX5_copy 2 = .ok (.putfield 7, 3) := by decide +kernel
theorem dX5_copy_5 : decode cX5_copy 5 = .ok (.iconst 0, 1) := by decide +kernel
theorem dX5_copy_6 : decode cX5_copy 6 = .ok (.istore_n 2, 1) := by decide +kernel
theorem dX5_copy_7 : decode cX5_copy 7 = .ok (.iload_n 2, 1) := by decide +kernel
theorem dX5_copy_8 : decode cX5_copy 8 = .ok (.aload_n 1, 1) := by decide +kernel
theorem dX5_copy_9 : decode cX5_copy 9 = .ok (.getfield 7, 3) := by decide +kernel
theorem dX5_copy_12 : decode cX5_copy 12 = .ok (.if_icmp .ge 19, 3) := by decide +kernel
theorem dX5_copy_15 : decode cX5_copy 15 = .ok (.aload_n 0, 1) := by decide +kernel
theorem dX5_copy_16 : decode cX5_copy 16 = .ok (.aload_n 1, 1) := by decide +kernel
theorem dX5_copy_17 : decode cX5_copy 17 = .ok (.getfield 13, 3) := by decide +kernel
theorem dX5_copy_20 : decode cX5_copy 20 = .ok (.iload_n 2, 1) := by decide +kernel
theorem dX5_copy_21 : decode cX5_copy 21 = .ok (.iaload, 1) := by decide +kernel
theorem dX5_copy_22 : decode cX5_copy 22 = .ok (.invokevirtual 21, 3) := by decide +kernel
theorem dX5_copy_25 : decode cX5_copy 25 = .ok (.iinc 2 1, 3) := by decide +kernel
theorem dX5_copy_28 : decode cX5_copy 28 = .ok (.goto (-21), 3) := by decide +kernel
theorem dX5_copy_31 : decode cX5_copy 31 = .ok (.return_, 1) := by decide +kernel
theorem dX5_drop_0 : decode cX5_drop 0 = .ok (.iconst 0, 1) := by decide +kernel
theorem dX5_drop_1 : decode cX5_drop 1 = .ok (.istore_n 2, 1) := by decide +kernel
theorem dX5_drop_2 : decode cX5_drop 2 = .ok (.iconst 0, 1) := by decide +kernel
theorem dX5_drop_3 : decode cX5_drop 3 = .ok (.istore_n 3, 1) := by decide +kernel
theorem dX5_drop_4 : decode cX5_drop 4 = .ok (.iload_n 3, 1) := by decide +kernel
theorem dX5_drop_5 : decode cX5_drop 5 = .ok (.aload_n 0, 1) := by decide +kernel
theorem dX5_drop_6 : decode cX5_drop 6 = .ok (.getfield 7, 3) := by decide +kernel
theorem dX5_drop_9 : decode cX5_drop 9 = .ok (.if_icmp .ge 34, 3) := by decide +kernel
theorem dX5_drop_12 : decode cX5_drop 12 = .ok (.aload_n 0, 1) := by decide +kernel
theorem dX5_drop_13 : decode cX5_drop 13 = .ok (.getfield 13, 3) := by decide +kernel
theorem dX5_drop_16 : decode cX5_drop 16 = .ok (.iload_n 3, 1) := by decide +kernel
theorem dX5_drop_17 : decode cX5_drop 17 = .ok (.iaload, 1) := by decide +kernel
theorem dX5_drop_18 : decode cX5_drop 18 = .ok (.iload_n 1, 1) := by decide +kernel
theorem dX5_drop_19 : decode cX5_drop 19 = .ok (.if_icmp .eq 18, 3) := by decide +kernel
theorem dX5_drop_22 : decode cX5_drop 22 = .ok (.aload_n 0, 1) := by decide +kernel
theorem dX5_drop_23 : decode cX5_drop 23 = .ok (.getfield 13, 3) := by decide +kernel
theorem dX5_drop_26 : decode cX5_drop 26 = .ok (.iload_n 2, 1) := by decide +kernel
theorem dX5_drop_27 : decode cX5_drop 27 = .ok (.aload_n 0, 1) := by decide +kernel
theorem dX5_drop_28 : decode cX5_drop 28 = .ok (.getfield 13, 3) := by decide +kernel
theorem dX5_drop_31 : decode cX5_drop 31 = .ok (.iload_n 3, 1) := by decide +kernel
theorem dX5_drop_32 : decode cX5_drop 32 = .ok (.iaload, 1) := by decide +kernel
theorem dX5_drop_33 : decode cX5_drop 33 = .ok (.iastore, 1) := by decide +kernel
theorem dX5_drop_34 : decode cX5_drop 34 = .ok (.iinc 2 1, 3) := by decide +kernel
theorem dX5_drop_37 : decode cX5_drop 37 = .ok (.iinc 3 1, 3) := by decide +kernel
theorem dX5_drop_40 : decode cX5_drop 40 = .ok (.goto (-36), 3) := by decide +kernel
theorem dX5_drop_43 : decode cX5_drop 43 = .ok (.aload_n 0, 1) := by decide +kernel
theorem dX5_drop_44 : decode cX5_drop 44 = .ok (.iload_n 2, 1) := by decide +kernel
theorem dX5_drop_45 : decode cX5_drop 45 = .ok (.putfield 7, 3) := by decide +kernel
theorem dX5_drop_48 : decode cX5_drop 48 = .ok (.return_, 1) := by decide +kernel
theorem dX6_init_0 : decode cX6_init 0 = .ok (.aload_n 0, 1) := by decide +kernel
theorem dX6_init_1 : decode cX6_init 1 = .ok (.invokespecial 3, 3) := by decide +kernel
theorem dX6_init_4 : decode cX6_init 4 = .ok (.aload_n 0, 1) := by decide +kernel
theorem dX6_init_5 : decode cX6_init 5 = .ok (.iconst 3, 1) := by decide +kernel
theorem dX6_init_6 : decode cX6_init 6 = .ok (.putfield 9, 3) := by decide +kernel
theorem dX6_init_9 : decode cX6_init 9 = .ok (.aload_n 0, 1) := by decide +kernel
theorem dX6_init_10 : decode cX6_init 10 = .ok (.iconst 0, 1) := by decide +kernel
theorem dX6_init_11 : decode cX6_init 11 = .ok (.putfield 15, 3) := by decide +kernel
theorem dX6_init_14 : decode cX6_init 14 = .ok (.aload_n 0, 1) := by decide +kernel
theorem dX6_init_15 : decode cX6_init 15 = .ok (.iconst 0, 1) := by decide +kernel
theorem dX6_init_16 : decode cX6_init 16 = .ok (.putfield 18, 3) := by decide +kernel
theorem dX6_init_19 : decode cX6_init 19 = .ok (.aload_n 0, 1) := by decide +kernel
theorem dX6_init_20 : decode cX6_init 20 = .ok (.iconst 0, 1) := by decide +kernel
theorem dX6_init_21 : decode cX6_init 21 = .ok (.putfield 21, 3) := by decide +kernel
theorem dX6_init_24 : decode cX6_init 24 = .ok (.aload_n 0, 1) := by decide +kernel
theorem dX6_init_25 : decode cX6_init 25 = .ok (.iconst 3, 1) := by decide +kernel
theorem dX6_init_26 : decode cX6_init 26 = .ok (.putfield 24, 3) := by decide +kernel
theorem dX6_init_29 : decode cX6_init 29 = .ok (.aload_n 0, 1) := by decide +kernel
theorem dX6_init_30 : decode cX6_init 30 = .ok (.lconst 0, 1) := by decide +kernel
theorem dX6_init_31 : decode cX6_init 31 = .ok (.putfield 27, 3) := by decide +kernel
theorem dX6_init_34 : decode cX6_init 34 = .ok (.aload_n 0, 1) := by decide +kernel
theorem dX6_init_35 : decode cX6_init 35 = .ok (.iconst 0, 1) := by decide +kernel
theorem dX6_init_36 : decode cX6_init 36 = .ok (.putfield 31, 3) := by decide +kernel
theorem dX6_init_39 : decode cX6_init 39 = .ok (.aload_n 0, 1) := by decide +kernel
theorem dX6_init_40 : decode cX6_init 40 = .ok (.iconst 0, 1) := by decide +kernel
theorem dX6_init_41 : decode cX6_init 41 = .ok (.putfield 34, 3) := by decide +kernel
theorem dX6_init_44 : decode cX6_init 44 = .ok (.aload_n 0, 1) := by decide +kernel
theorem dX6_init_45 : decode cX6_init 45 = .ok (.lconst 0, 1) := by decide +kernel
theorem dX6_init_46 : decode cX6_init 46 = .ok (.putfield 37, 3) := by decide +kernel
theorem dX6_init_49 : decode cX6_init 49 = .ok (.aload_n 0, 1) := by decide +kernel
theorem dX6_init_50 : decode cX6_init 50 = .ok (.lconst 0, 1) := by decide +kernel
theorem dX6_init_51 : decode cX6_init 51 = .ok (.putfield 40, 3) := by decide +kernel
theorem dX6_init_54 : decode cX6_init 54 = .ok (.aload_n 0, 1) := by decide +kernel
theorem dX6_init_55 : decode cX6_init 55 = .ok (.new 43, 3) := by decide +kernel
theorem dX6_init_58 : decode cX6_init 58 = .ok (.dup, 1) := by decide +kernel
theorem dX6_init_59 : decode cX6_init 59 = .ok (.bipush 10, 2) := by decide +kernel
theorem dX6_init_61 : decode cX6_init 61 = .ok (.invokespecial 45, 3) := by decide +kernel
theorem dX6_init_64 : decode cX6_init 64 = .ok (.putfield 48, 3) := by decide +kernel
theorem dX6_init_67 : decode cX6_init 67 = .ok (.aload_n 0, 1) := by decide +kernel
theorem dX6_init_68 : decode cX6_init 68 = .ok (.new 43, 3) := by decide +kernel
theorem dX6_init_71 : decode cX6_init 71 = .ok (.dup, 1) := by decide +kernel
theorem dX6_init_72 : decode cX6_init 72 = .ok (.iconst 4, 1) := by decide +kernel
theorem dX6_init_73 : decode cX6_init 73 = .ok (.invokespecial 45, 3) := by decide +kernel
theorem dX6_init_76 : decode cX6_init 76 = .ok (.putfield 52, 3) := by decide +kernel
theorem dX6_init_79 : decode cX6_init 79 = .ok (.aload_n 0, 1) := by decide +kernel
theorem dX6_init_80 : decode cX6_init 80 = .ok (.iconst 5, 1) := by decide +kernel
theorem dX6_init_81 : decode cX6_init 81 = .ok (.newarray .int, 2) := by decide +kernel
theorem dX6_init_83 : decode cX6_init 83 = .ok (.putfield 55, 3) := by decide +kernel
theorem dX6_init_86 : decode cX6_init 86 = .ok (.aload_n 0, 1) := by decide +kernel
theorem dX6_init_87 : decode cX6_init 87 = .ok (.iconst 0, 1) := by decide +kernel
theorem dX6_init_88 : decode cX6_init 88 = .ok (.putfield 59, 3) := by decide +kernel
theorem dX6_init_91 : decode cX6_init 91 = .ok (.aload_n 0, 1) := by decide +kernel
theorem dX6_init_92 : decode cX6_init 92 = .ok (.ldc2_w 63, 3) := by decide +kernel
theorem dX6_init_95 : decode cX6_init 95 = .ok (.putfield 65, 3) := by decide +kernel
theorem dX6_init_98 : decode cX6_init 98 = .ok (.aload_n 0, 1) := by decide +kernel
theorem dX6_init_99 : decode cX6_init 99 = .ok (.iload_n 1, 1) := by decide +kernel
theorem dX6_init_100 : decode cX6_init 100 = .ok (.putfield 68, 3) := by decide +kernel
theorem dX6_init_103 : decode cX6_init 103 = .ok (.aload_n 0, 1) := by decide +kernel
theorem dX6_init_104 : decode cX6_init 104 = .ok (.iconst 1, 1) := by decide +kernel
theorem dX6_init_105 : decode cX6_init 105 = .ok (.iload_n 1, 1) := by decide +kernel
theorem dX6_init_106 : decode cX6_init 106 = .ok (.ishl, 1) := by decide +kernel
theorem dX6_init_107 : decode cX6_init 107 = .ok (.putfield 71, 3) := by decide +kernel
theorem dX6_init_110 : decode cX6_init 110 = .ok (.aload_n 0, 1) := by decide +kernel
theorem dX6_init_111 : decode cX6_init 111 = .ok (.iconst 1, 1) := by decide +kernel
theorem dX6_init_112 : decode cX6_init 112 = .ok (.iload_n 2, 1) := by decide +kernel
theorem dX6_init_113 : decode cX6_init 113 = .ok (.ishl, 1) := by decide +kernel
theorem dX6_init_114 : decode cX6_init 114 = .ok (.iconst 1, 1) := by decide +kernel
theorem dX6_init_115 : decode cX6_init 115 = .ok (.isub, 1) := by decide +kernel
theorem dX6_init_116 : decode cX6_init 116 = .ok (.aload_n 0, 1) := by decide +kernel
theorem dX6_init_117 : decode cX6_init 117 = .ok (.getfield 71, 3) := by decide +kernel
theorem dX6_init_120 : decode cX6_init 120 = .ok (.ixor, 1) := by decide +kernel
theorem dX6_init_121 : decode cX6_init 121 = .ok (.putfield 74, 3) := by decide +kernel
theorem dX6_init_124 : decode cX6_init 124 = .ok (.aload_n 0, 1) := by decide +kernel
theorem dX6_init_125 : decode cX6_init 125 = .ok (.new 77, 3) := by decide +kernel
theorem dX6_init_128 : decode cX6_init 128 = .ok (.dup, 1) := by decide +kernel
theorem dX6_init_129 : decode cX6_init 129 = .ok (.iload_n 2, 1) := by decide +kernel
theorem dX6_init_130 : decode cX6_init 130 = .ok (.invokespecial 79, 3) := by decide +kernel
theorem dX6_init_133 : decode cX6_init 133 = .ok (.putfield 80, 3) := by decide +kernel
theorem dX6_init_136 : decode cX6_init 136 = .ok (.aload_n 0, 1) := by decide +kernel
theorem dX6_init_137 : decode cX6_init 137 = .ok (.new 77, 3) := by decide +kernel
theorem dX6_init_140 : decode cX6_init 140 = .ok (.dup, 1) := by decide +kernel
theorem dX6_init_141 : decode cX6_init 141 = .ok (.iload_n 2, 1) := by decide +kernel
theorem dX6_init_142 : decode cX6_init 142 = .ok (.invokespecial 79, 3) := by decide +kernel
theorem dX6_init_145 : decode cX6_init 145 = .ok (.putfield 84, 3) := by decide +kernel
theorem dX6_init_148 : decode cX6_init 148 = .ok (.return_, 1) := by decide +kernel
theorem dX6_isFree_0 : decode cX6_isFree 0 = .ok (.aload_n 0, 1) := by decide +kernel
theorem dX6_isFree_1 : decode cX6_isFree 1 = .ok (.getfield 31, 3) := by decide +kernel
theorem dX6_isFree_4 : decode cX6_isFree 4 = .ok (.ifCond .ne 17, 3) := by decide +kernel
theorem dX6_isFree_7 : decode cX6_isFree 7 = .ok (.aload_n 0, 1) := by decide +kernel
theorem dX6_isFree_8 : decode cX6_isFree 8 = .ok (.getfield 80, 3) := by decide +kernel
theorem dX6_isFree_11 : decode cX6_isFree 11 = .ok (.getfield 87, 3) := by decide +kernel
theorem dX6_isFree_14 : decode cX6_isFree 14 = .ok (.ifCond .ne 7, 3) := by decide +kernel
theorem dX6_isFree_17 : decode cX6_isFree 17 = .ok (.iconst 1, 1) := by decide +kernel
theorem dX6_isFree_18 : decode cX6_isFree 18 = .ok (.goto 4, 3) := by decide +kernel
theorem dX6_isFree_21 : decode cX6_isFree 21 = .ok (.iconst 0, 1) := by decide +kernel
theorem dX6_isFree_22 : decode cX6_isFree 22 = .ok (.ireturn, 1) := by decide +kernel
theorem dX6_mayAttempt_0 : decode cX6_mayAttempt 0 = .ok (.aload_n 0, 1) := by decide +kernel
theorem dX6_mayAttempt_1 : decode cX6_mayAttempt 1 = .ok (.getfield 84, 3) := by decide +kernel
theorem dX6_mayAttempt_4 : decode cX6_mayAttempt 4 = .ok (.getfield 87, 3) := by decide +kernel
theorem dX6_mayAttempt_7 : decode cX6_mayAttempt 7 = .ok (.ifCond .ne 51, 3) := by decide +kernel
theorem dX6_mayAttempt_10 : decode cX6_mayAttempt 10 = .ok (.aload_n 0, 1) := by decide +kernel
theorem dX6_mayAttempt_11 : decode cX6_mayAttempt 11 = .ok (.invokevirtual 90, 3) := by decide +kernel
theorem dX6_mayAttempt_14 : decode cX6_mayAttempt 14 = .ok (.ifCond .eq 44, 3) := by decide +kernel
theorem dX6_mayAttempt_17 : decode cX6_mayAttempt 17 = .ok (.aload_n 0, 1) := by decide +kernel
theorem dX6_mayAttempt_18 : decode cX6_mayAttempt 18 = .ok (.getfield 48, 3) := by decide +kernel
theorem dX6_mayAttempt_21 : decode cX6_mayAttempt 21 = .ok (.getfield 94, 3) := by decide +kernel
theorem dX6_mayAttempt_24 : decode cX6_mayAttempt 24 = .ok (.ifCond .le 34, 3) := by decide +kernel
theorem dX6_mayAttempt_27 : decode cX6_mayAttempt 27 = .ok (.aload_n 0, 1) := by decide +kernel
theorem dX6_mayAttempt_28 : decode cX6_mayAttempt 28 = .ok (.getfield 18, 3) := by decide +kernel
theorem dX6_mayAttempt_31 : decode cX6_mayAttempt 31 = .ok (.ifCond .ne 27, 3) := by decide +kernel
theorem dX6_mayAttempt_34 : decode cX6_mayAttempt 34 = .ok (.aload_n 0, 1) := by decide +kernel
theorem dX6_mayAttempt_35 : decode cX6_mayAttempt 35 = .ok (.getfield 21, 3) := by decide +kernel
theorem dX6_mayAttempt_38 : decode cX6_mayAttempt 38 = .ok (.aload_n 0, 1) := by decide +kernel
theorem dX6_mayAttempt_39 : decode cX6_mayAttempt 39 = .ok (.getfield 24, 3) := by decide +kernel
theorem dX6_mayAttempt_42 : decode cX6_mayAttempt 42 = .ok (.if_icmp .lt 16, 3) := by decide +kernel
theorem dX6_mayAttempt_45 : decode cX6_mayAttempt 45 = .ok (.aload_n 0, 1) := by decide +kernel
theorem dX6_mayAttempt_46 : decode cX6_mayAttempt 46 = .ok (.getfield 27, 3) := by decide +kernel
theorem dX6_mayAttempt_49 : decode cX6_mayAttempt 49 = .ok (.lload_n 1, 1) := by decide +kernel
theorem dX6_mayAttempt_50 : decode cX6_mayAttempt 50 = .ok (.lcmp, 1) := by decide +kernel
theorem dX6_mayAttempt_51 : decode cX6_mayAttempt 51 = .ok (.ifCond .gt 7, 3) := by decide +kernel
theorem dX6_mayAttempt_54 : decode cX6_mayAttempt 54 = .ok (.iconst 1, 1) := by decide +kernel
theorem dX6_mayAttempt_55 : decode cX6_mayAttempt 55 = .ok (.goto 4, 3) := by decide +kernel
theorem dX6_mayAttempt_58 : decode cX6_mayAttempt 58 = .ok (.iconst 0, 1) := by decide +kernel
theorem dX6_mayAttempt_59 : decode cX6_mayAttempt 59 = .ok (.ireturn, 1) := by decide +kernel
theorem dX6_waitsFor_0 : decode cX6_waitsFor 0 = .ok (.aload_n 0, 1) := by decide +kernel
theorem dX6_waitsFor_1 : decode cX6_waitsFor 1 = .ok (.getfield 31, 3) := by decide +kernel
theorem dX6_waitsFor_4 : decode cX6_waitsFor 4 = .ok (.iload_n 1, 1) := by decide +kernel
theorem dX6_waitsFor_5 : decode cX6_waitsFor 5 = .ok (.if_icmp .ne 15, 3) := by decide +kernel
theorem dX6_waitsFor_8 : decode cX6_waitsFor 8 = .ok (.aload_n 0, 1) := by decide +kernel
theorem dX6_waitsFor_9 : decode cX6_waitsFor 9 = .ok (.getfield 34, 3) := by decide +kernel
theorem dX6_waitsFor_12 : decode cX6_waitsFor 12 = .ok (.iload_n 2, 1) := by decide +kernel
theorem dX6_waitsFor_13 : decode cX6_waitsFor 13 = .ok (.if_icmp .ne 7, 3) := by decide +kernel
theorem dX6_waitsFor_16 : decode cX6_waitsFor 16 = .ok (.iconst 1, 1) := by decide +kernel
theorem dX6_waitsFor_17 : decode cX6_waitsFor 17 = .ok (.goto 4, 3) := by decide +kernel
theorem dX6_waitsFor_20 : decode cX6_waitsFor 20 = .ok (.iconst 0, 1) := by decide +kernel
theorem dX6_waitsFor_21 : decode cX6_waitsFor 21 = .ok (.ireturn, 1) := by decide +kernel
theorem dX6_startAnew_0 : decode cX6_startAnew 0 = .ok (.aload_n 0, 1) := by decide +kernel
theorem dX6_startAnew_1 : decode cX6_startAnew 1 = .ok (.iconst 0, 1) := by decide +kernel
theorem dX6_startAnew_2 : decode cX6_startAnew 2 = .ok (.putfield 15, 3) := by decide +kernel
theorem dX6_startAnew_5 : decode cX6_startAnew 5 = .ok (.aload_n 0, 1) := by decide +kernel
theorem dX6_startAnew_6 : decode cX6_startAnew 6 = .ok (.iconst 3, 1) := by decide +kernel
theorem dX6_startAnew_7 : decode cX6_startAnew 7 = .ok (.putfield 9, 3) := by decide +kernel
theorem dX6_startAnew_10 : decode cX6_startAnew 10 = .ok (.return_, 1) := by decide +kernel
theorem dX6_beginDue_0 : decode cX6_beginDue 0 = .ok (.aload_n 0, 1) := by decide +kernel
theorem dX6_beginDue_1 : decode cX6_beginDue 1 = .ok (.getfield 80, 3) := by decide +kernel
theorem dX6_beginDue_4 : decode cX6_beginDue 4 = .ok (.astore_n 1, 1) := by decide +kernel
theorem dX6_beginDue_5 : decode cX6_beginDue 5 = .ok (.aload_n 0, 1) := by decide +kernel
theorem dX6_beginDue_6 : decode cX6_beginDue 6 = .ok (.aload_n 0, 1) := by decide +kernel
theorem dX6_beginDue_7 : decode cX6_beginDue 7 = .ok (.getfield 84, 3) := by decide +kernel
theorem dX6_beginDue_10 : decode cX6_beginDue 10 = .ok (.putfield 80, 3) := by decide +kernel
theorem dX6_beginDue_13 : decode cX6_beginDue 13 = .ok (.aload_n 0, 1) := by decide +kernel
theorem dX6_beginDue_14 : decode cX6_beginDue 14 = .ok (.getfield 80, 3) := by decide +kernel
theorem dX6_beginDue_17 : decode cX6_beginDue 17 = .ok (.iconst 0, 1) := by decide +kernel
theorem dX6_beginDue_18 : decode cX6_beginDue 18 = .ok (.putfield 87, 3) := by decide +kernel
theorem dX6_beginDue_21 : decode cX6_beginDue 21 = .ok (.aload_n 0, 1) := by decide +kernel
theorem dX6_beginDue_22 : decode cX6_beginDue 22 = .ok (.aload_n 1, 1) := by decide +kernel
theorem dX6_beginDue_23 : decode cX6_beginDue 23 = .ok (.putfield 84, 3) := by decide +kernel
theorem dX6_beginDue_26 : decode cX6_beginDue 26 = .ok (.aload_n 0, 1) := by decide +kernel
theorem dX6_beginDue_27 : decode cX6_beginDue 27 = .ok (.invokevirtual 97, 3) := by decide +kernel
theorem dX6_beginDue_30 : decode cX6_beginDue 30 = .ok (.return_, 1) := by decide +kernel
theorem dX6_countBegun_0 : decode cX6_countBegun 0 = .ok (.aload_n 0, 1) := by decide +kernel
theorem dX6_countBegun_1 : decode cX6_countBegun 1 = .ok (.getfield 55, 3) := by decide +kernel
theorem dX6_countBegun_4 : decode cX6_countBegun 4 = .ok (.aload_n 0, 1) := by decide +kernel
theorem dX6_countBegun_5 : decode cX6_countBegun 5 = .ok (.getfield 84, 3) := by decide +kernel
theorem dX6_countBegun_8 : decode cX6_countBegun 8 = .ok (.getfield 87, 3) := by decide +kernel
theorem dX6_countBegun_11 : decode cX6_countBegun 11 = .ok (.dup2, 1) := by decide +kernel
theorem dX6_countBegun_12 : decode cX6_countBegun 12 = .ok (.iaload, 1) := by decide +kernel
theorem dX6_countBegun_13 : decode cX6_countBegun 13 = .ok (.iconst 1, 1) := by decide +kernel
theorem dX6_countBegun_14 : decode cX6_countBegun 14 = .ok (.iadd, 1) := by decide +kernel
theorem dX6_countBegun_15 : decode cX6_countBegun 15 = .ok (.iastore, 1) := by decide +kernel
theorem dX6_countBegun_16 : decode cX6_countBegun 16 = .ok (.return_, 1) := by decide +kernel
theorem dX6_endFrame_0 : decode cX6_endFrame 0 = .ok (.aload_n 0, 1) := by decide +kernel
theorem dX6_endFrame_1 : decode cX6_endFrame 1 = .ok (.getfield 84, 3) := by decide +kernel
theorem dX6_endFrame_4 : decode cX6_endFrame 4 = .ok (.getfield 87, 3) := by decide +kernel
theorem dX6_endFrame_7 : decode cX6_endFrame 7 = .ok (.istore_n 3, 1) := by decide +kernel
theorem dX6_endFrame_8 : decode cX6_endFrame 8 = .ok (.aload_n 0, 1) := by decide +kernel
theorem dX6_endFrame_9 : decode cX6_endFrame 9 = .ok (.getfield 84, 3) := by decide +kernel
theorem dX6_endFrame_12 : decode cX6_endFrame 12 = .ok (.iconst 0, 1) := by decide +kernel
theorem dX6_endFrame_13 : decode cX6_endFrame 13 = .ok (.putfield 87, 3) := by decide +kernel
theorem dX6_endFrame_16 : decode cX6_endFrame 16 = .ok (.iload_n 3, 1) := by decide +kernel
theorem dX6_endFrame_17 : decode cX6_endFrame 17 = .ok (.iconst 1, 1) := by decide +kernel
theorem dX6_endFrame_18 : decode cX6_endFrame 18 = .ok (.if_icmp .eq 8, 3) := by decide +kernel
theorem dX6_endFrame_21 : decode cX6_endFrame 21 = .ok (.iload_n 3, 1) := by decide +kernel
theorem dX6_endFrame_22 : decode cX6_endFrame 22 = .ok (.iconst 3, 1) := by decide +kernel
theorem dX6_endFrame_23 : decode cX6_endFrame 23 = .ok (.if_icmp .ne 37, 3) := by decide +kernel
theorem dX6_endFrame_26 : decode cX6_endFrame 26 = .ok (.aload_n 0, 1) := by decide +kernel
theorem dX6_endFrame_27 : decode cX6_endFrame 27 = .ok (.iload_n 3, 1) := by decide +kernel
theorem dX6_endFrame_28 : decode cX6_endFrame 28 = .ok (.iconst 1, 1) := by decide +kernel
theorem dX6_endFrame_29 : decode cX6_endFrame 29 = .ok (.if_icmp .ne 7, 3) := by decide +kernel
theorem dX6_endFrame_32 : decode cX6_endFrame 32 = .ok (.iconst 2, 1) := by decide +kernel
theorem dX6_endFrame_33 : decode cX6_endFrame 33 = .ok (.goto 4, 3) := by decide +kernel
theorem dX6_endFrame_36 : decode cX6_endFrame 36 = .ok (.iconst 4, 1) := by decide +kernel
theorem dX6_endFrame_37 : decode cX6_endFrame 37 = .ok (.putfield 31, 3) := by decide +kernel
theorem dX6_endFrame_40 : decode cX6_endFrame 40 = .ok (.aload_n 0, 1) := by decide +kernel
theorem dX6_endFrame_41 : decode cX6_endFrame 41 = .ok (.aload_n 0, 1) := by decide +kernel
theorem dX6_endFrame_42 : decode cX6_endFrame 42 = .ok (.getfield 84, 3) := by decide +kernel
theorem dX6_endFrame_45 : decode cX6_endFrame 45 = .ok (.getfield 100, 3) := by decide +kernel
theorem dX6_endFrame_48 : decode cX6_endFrame 48 = .ok (.putfield 34, 3) := by decide +kernel
theorem dX6_endFrame_51 : decode cX6_endFrame 51 = .ok (.aload_n 0, 1) := by decide +kernel
theorem dX6_endFrame_52 : decode cX6_endFrame 52 = .ok (.lload_n 1, 1) := by decide +kernel
theorem dX6_endFrame_53 : decode cX6_endFrame 53 = .ok (.ldc2_w 103, 3) := by decide +kernel
theorem dX6_endFrame_56 : decode cX6_endFrame 56 = .ok (.ladd, 1) := by decide +kernel
theorem dX6_endFrame_57 : decode cX6_endFrame 57 = .ok (.putfield 37, 3) := by decide +kernel
theorem dX6_endFrame_60 : decode cX6_endFrame 60 = .ok (.return_, 1) := by decide +kernel
theorem dX6_countIdle_0 : decode cX6_countIdle 0 = .ok (.iload_n 1, 1) := by decide +kernel
theorem dX6_countIdle_1 : decode cX6_countIdle 1 = .ok (.ifCond .ne 9, 3) := by decide +kernel
theorem dX6_countIdle_4 : decode cX6_countIdle 4 = .ok (.aload_n 0, 1) := by decide +kernel
theorem dX6_countIdle_5 : decode cX6_countIdle 5 = .ok (.iconst 0, 1) := by decide +kernel
theorem dX6_countIdle_6 : decode cX6_countIdle 6 = .ok (.putfield 21, 3) := by decide +kernel
theorem dX6_countIdle_9 : decode cX6_countIdle 9 = .ok (.return_, 1) := by decide +kernel
theorem dX6_countIdle_10 : decode cX6_countIdle 10 = .ok (.aload_n 0, 1) := by decide +kernel
theorem dX6_countIdle_11 : decode cX6_countIdle 11 = .ok (.dup, 1) := by decide +kernel
theorem dX6_countIdle_12 : decode cX6_countIdle 12 = .ok (.getfield 21, 3) := by decide +kernel
theorem dX6_countIdle_15 : decode cX6_countIdle 15 = .ok (.iconst 1, 1) := by decide +kernel
theorem dX6_countIdle_16 : decode cX6_countIdle 16 = .ok (.iadd, 1) := by decide +kernel
theorem dX6_countIdle_17 : decode cX6_countIdle 17 = .ok (.putfield 21, 3) := by decide +kernel
theorem dX6_countIdle_20 : decode cX6_countIdle 20 = .ok (.aload_n 0, 1) := by decide +kernel
theorem dX6_countIdle_21 : decode cX6_countIdle 21 = .ok (.getfield 21, 3) := by decide +kernel
theorem dX6_countIdle_24 : decode cX6_countIdle 24 = .ok (.aload_n 0, 1) := by decide +kernel
theorem dX6_countIdle_25 : decode cX6_countIdle 25 = .ok (.getfield 24, 3) := by decide +kernel
theorem dX6_countIdle_28 : decode cX6_countIdle 28 = .ok (.if_icmp .le 20, 3) := by decide +kernel
theorem dX6_countIdle_31 : decode cX6_countIdle 31 = .ok (.aload_n 0, 1) := by decide +kernel
theorem dX6_countIdle_32 : decode cX6_countIdle 32 = .ok (.getfield 18, 3) := by decide +kernel
theorem dX6_countIdle_35 : decode cX6_countIdle 35 = .ok (.ifCond .le 13, 3) := by decide +kernel
theorem dX6_countIdle_38 : decode cX6_countIdle 38 = .ok (.aload_n 0, 1) := by decide +kernel
theorem dX6_countIdle_39 : decode cX6_countIdle 39 = .ok (.dup, 1) := by decide +kernel
theorem dX6_countIdle_40 : decode cX6_countIdle 40 = .ok (.getfield 18, 3) := by decide +kernel
theorem dX6_countIdle_43 : decode cX6_countIdle 43 = .ok (.iconst 1, 1) := by decide +kernel
theorem dX6_countIdle_44 : decode cX6_countIdle 44 = .ok (.isub, 1) := by decide +kernel
theorem dX6_countIdle_45 : decode cX6_countIdle 45 = .ok (.putfield 18, 3) := by decide +kernel
theorem dX6_countIdle_48 : decode cX6_countIdle 48 = .ok (.return_, 1) := by decide +kernel
theorem dX7_init_0 : decode cX7_init 0 = .ok (.aload_n 0, 1) := by decide +kernel
theorem dX7_init_1 : decode cX7_init 1 = .ok (.invokespecial 1, 3) := by decide +kernel
theorem dX7_init_4 : decode cX7_init 4 = .ok (.aload_n 0, 1) := by decide +kernel
theorem dX7_init_5 : decode cX7_init 5 = .ok (.new 7, 3) := by decide +kernel
theorem dX7_init_8 : decode cX7_init 8 = .ok (.dup, 1) := by decide +kernel
theorem dX7_init_9 : decode cX7_init 9 = .ok (.invokespecial 9, 3) := by decide +kernel
theorem dX7_init_12 : decode cX7_init 12 = .ok (.putfield 10, 3) := by decide +kernel
theorem dX7_init_15 : decode cX7_init 15 = .ok (.aload_n 0, 1) := by decide +kernel
theorem dX7_init_16 : decode cX7_init 16 = .ok (.new 16, 3) := by decide +kernel
theorem dX7_init_19 : decode cX7_init 19 = .ok (.dup, 1) := by decide +kernel
theorem dX7_init_20 : decode cX7_init 20 = .ok (.invokespecial 18, 3) := by decide +kernel
theorem dX7_init_23 : decode cX7_init 23 = .ok (.putfield 19, 3) := by decide +kernel
theorem dX7_init_26 : decode cX7_init 26 = .ok (.aload_n 0, 1) := by decide +kernel
theorem dX7_init_27 : decode cX7_init 27 = .ok (.new 23, 3) := by decide +kernel
theorem dX7_init_30 : decode cX7_init 30 = .ok (.dup, 1) := by decide +kernel
theorem dX7_init_31 : decode cX7_init 31 = .ok (.invokespecial 25, 3) := by decide +kernel
theorem dX7_init_34 : decode cX7_init 34 = .ok (.putfield 26, 3) := by decide +kernel
theorem dX7_init_37 : decode cX7_init 37 = .ok (.aload_n 0, 1) := by decide +kernel
theorem dX7_init_38 : decode cX7_init 38 = .ok (.new 30, 3) := by decide +kernel
theorem dX7_init_41 : decode cX7_init 41 = .ok (.dup, 1) := by decide +kernel
theorem dX7_init_42 : decode cX7_init 42 = .ok (.invokespecial 32, 3) := by decide +kernel
theorem dX7_init_45 : decode cX7_init 45 = .ok (.putfield 33, 3) := by decide +kernel
theorem dX7_init_48 : decode cX7_init 48 = .ok (.aload_n 0, 1) := by decide +kernel
theorem dX7_init_49 : decode cX7_init 49 = .ok (.new 37, 3) := by decide +kernel
theorem dX7_init_52 : decode cX7_init 52 = .ok (.dup, 1) := by decide +kernel
theorem dX7_init_53 : decode cX7_init 53 = .ok (.iconst 4, 1) := by decide +kernel
theorem dX7_init_54 : decode cX7_init 54 = .ok (.invokespecial 39, 3) := by decide +kernel
theorem dX7_init_57 : decode cX7_init 57 = .ok (.putfield 42, 3) := by decide +kernel
theorem dX7_init_60 : decode cX7_init 60 = .ok (.aload_n 0, 1) := by decide +kernel
theorem dX7_init_61 : decode cX7_init 61 = .ok (.bipush 20, 2) := by decide +kernel
theorem dX7_init_63 : decode cX7_init 63 = .ok (.putfield 46, 3) := by decide +kernel
theorem dX7_init_66 : decode cX7_init 66 = .ok (.aload_n 0, 1) := by decide +kernel
theorem dX7_init_67 : decode cX7_init 67 = .ok (.lconst 0, 1) := by decide +kernel
theorem dX7_init_68 : decode cX7_init 68 = .ok (.putfield 50, 3) := by decide +kernel
theorem dX7_init_71 : decode cX7_init 71 = .ok (.aload_n 0, 1) := by decide +kernel
theorem dX7_init_72 : decode cX7_init 72 = .ok (.iconst 0, 1) := by decide +kernel
theorem dX7_init_73 : decode cX7_init 73 = .ok (.putfield 54, 3) := by decide +kernel
theorem dX7_init_76 : decode cX7_init 76 = .ok (.iconst 2, 1) := by decide +kernel
theorem dX7_init_77 : decode cX7_init 77 = .ok (.bipush 6, 2) := by decide +kernel
theorem dX7_init_79 : decode cX7_init 79 = .ok (.iload_n 1, 1) := by decide +kernel
theorem dX7_init_80 : decode cX7_init 80 = .ok (.invokestatic 57, 3) := by decide +kernel
theorem dX7_init_83 : decode cX7_init 83 = .ok (.invokestatic 63, 3) := by decide +kernel
theorem dX7_init_86 : decode cX7_init 86 = .ok (.istore_n 2, 1) := by decide +kernel
theorem dX7_init_87 : decode cX7_init 87 = .ok (.aload_n 0, 1) := by decide +kernel
theorem dX7_init_88 : decode cX7_init 88 = .ok (.iload_n 2, 1) := by decide +kernel
theorem dX7_init_89 : decode cX7_init 89 = .ok (.anewarray 66, 3) := by decide +kernel
theorem dX7_init_92 : decode cX7_init 92 = .ok (.putfield 68, 3) := by decide +kernel
theorem dX7_init_95 : decode cX7_init 95 = .ok (.iconst 0, 1) := by decide +kernel
theorem dX7_init_96 : decode cX7_init 96 = .ok (.istore_n 3, 1) := by decide +kernel
theorem dX7_init_97 : decode cX7_init 97 = .ok (.iload_n 3, 1) := by decide +kernel
theorem dX7_init_98 : decode cX7_init 98 = .ok (.iload_n 2, 1) := by decide +kernel
theorem dX7_init_99 : decode cX7_init 99 = .ok (.if_icmp .ge 24, 3) := by decide +kernel
theorem dX7_init_102 : decode cX7_init 102 = .ok (.aload_n 0, 1) := by decide +kernel
theorem dX7_init_103 : decode cX7_init 103 = .ok (.getfield 68, 3) := by decide +kernel
theorem dX7_init_106 : decode cX7_init 106 = .ok (.iload_n 3, 1) := by decide +kernel
theorem dX7_init_107 : decode cX7_init 107 = .ok (.new 66, 3) := by decide +kernel
theorem dX7_init_110 : decode cX7_init 110 = .ok (.dup, 1) := by decide +kernel
theorem dX7_init_111 : decode cX7_init 111 = .ok (.iload_n 3, 1) := by decide +kernel
theorem dX7_init_112 : decode cX7_init 112 = .ok (.iload_n 2, 1) := by decide +kernel
theorem dX7_init_113 : decode cX7_init 113 = .ok (.invokespecial 72, 3) := by decide +kernel
theorem dX7_init_116 : decode cX7_init 116 = .ok (.aastore, 1) := by decide +kernel
theorem dX7_init_117 : decode cX7_init 117 = .ok (.iinc 3 1, 3) := by decide +kernel
theorem dX7_init_120 : decode cX7_init 120 = .ok (.goto (-23), 3) := by decide +kernel
theorem dX7_init_123 : decode cX7_init 123 = .ok (.return_, 1) := by decide +kernel
theorem dX7_hear_0 : decode cX7_hear 0 = .ok (.aload_n 0, 1) := by decide +kernel
theorem dX7_hear_1 : decode cX7_hear 1 = .ok (.iload_n 1, 1) := by decide +kernel
theorem dX7_hear_2 : decode cX7_hear 2 = .ok (.invokevirtual 75, 3) := by decide +kernel
theorem dX7_hear_5 : decode cX7_hear 5 = .ok (.ifCond .eq 11, 3) := by decide +kernel
theorem dX7_hear_8 : decode cX7_hear 8 = .ok (.aload_n 0, 1) := by decide +kernel
theorem dX7_hear_9 : decode cX7_hear 9 = .ok (.iload_n 2, 1) := by decide +kernel
theorem dX7_hear_10 : decode cX7_hear 10 = .ok (.invokevirtual 75, 3) := by decide +kernel
theorem dX7_hear_13 : decode cX7_hear 13 = .ok (.ifCond .ne 6, 3) := by decide +kernel
theorem dX7_hear_16 : decode cX7_hear 16 = .ok (.bipush (-11), 2) := by decide +kernel
theorem dX7_hear_18 : decode cX7_hear 18 = .ok (.ireturn, 1) := by decide +kernel
theorem dX7_hear_19 : decode cX7_hear 19 = .ok (.iload_n 1, 1) := by decide +kernel
theorem dX7_hear_20 : decode cX7_hear 20 = .ok (.iload_n 2, 1) := by decide +kernel
theorem dX7_hear_21 : decode cX7_hear 21 = .ok (.if_icmp .ne 6, 3) := by decide +kernel
theorem dX7_hear_24 : decode cX7_hear 24 = .ok (.bipush (-12), 2) := by decide +kernel
theorem dX7_hear_26 : decode cX7_hear 26 = .ok (.ireturn, 1) := by decide +kernel
theorem dX7_hear_27 : decode cX7_hear 27 = .ok (.aload_n 0, 1) := by decide +kernel
theorem dX7_hear_28 : decode cX7_hear 28 = .ok (.getfield 68, 3) := by decide +kernel
theorem dX7_hear_31 : decode cX7_hear 31 = .ok (.iload_n 1, 1) := by decide +kernel
theorem dX7_hear_32 : decode cX7_hear 32 = .ok (.aaload, 1) := by decide +kernel
theorem dX7_hear_33 : decode cX7_hear 33 = .ok (.astore 4, 2) := by decide +kernel
theorem dX7_hear_35 : decode cX7_hear 35 = .ok (.aload_n 0, 1) := by decide +kernel
theorem dX7_hear_36 : decode cX7_hear 36 = .ok (.getfield 68, 3) := by decide +kernel
theorem dX7_hear_39 : decode cX7_hear 39 = .ok (.iload_n 2, 1) := by decide +kernel
theorem dX7_hear_40 : decode cX7_hear 40 = .ok (.aaload, 1) := by decide +kernel
theorem dX7_hear_41 : decode cX7_hear 41 = .ok (.getfield 79, 3) := by decide +kernel
theorem dX7_hear_44 : decode cX7_hear 44 = .ok (.istore 5, 2) := by decide +kernel
theorem dX7_hear_46 : decode cX7_hear 46 = .ok (.aload 4, 2) := by decide +kernel
theorem dX7_hear_48 : decode cX7_hear 48 = .ok (.getfield 82, 3) := by decide +kernel
theorem dX7_hear_51 : decode cX7_hear 51 = .ok (.iload 5, 2) := by decide +kernel
theorem dX7_hear_53 : decode cX7_hear 53 = .ok (.iand, 1) := by decide +kernel
theorem dX7_hear_54 : decode cX7_hear 54 = .ok (.ifCond .eq 7, 3) := by decide +kernel
theorem dX7_hear_57 : decode cX7_hear 57 = .ok (.iconst 1, 1) := by decide +kernel
theorem dX7_hear_58 : decode cX7_hear 58 = .ok (.goto 4, 3) := by decide +kernel
theorem dX7_hear_61 : decode cX7_hear 61 = .ok (.iconst 0, 1) := by decide +kernel
theorem dX7_hear_62 : decode cX7_hear 62 = .ok (.iload_n 3, 1) := by decide +kernel
theorem dX7_hear_63 : decode cX7_hear 63 = .ok (.if_icmp .ne 5, 3) := by decide +kernel
theorem dX7_hear_66 : decode cX7_hear 66 = .ok (.iconst 0, 1) := by decide +kernel
theorem dX7_hear_67 : decode cX7_hear 67 = .ok (.ireturn, 1) := by decide +kernel
theorem dX7_hear_68 : decode cX7_hear 68 = .ok (.aload 4, 2) := by decide +kernel
theorem dX7_hear_70 : decode cX7_hear 70 = .ok (.dup, 1) := by decide +kernel
theorem dX7_hear_71 : decode cX7_hear 71 = .ok (.getfield 82, 3) := by decide +kernel
theorem dX7_hear_74 : decode cX7_hear 74 = .ok (.iload 5, 2) := by decide +kernel
theorem dX7_hear_76 : decode cX7_hear 76 = .ok (.ixor, 1) := by decide +kernel
theorem dX7_hear_77 : decode cX7_hear 77 = .ok (.putfield 82, 3) := by decide +kernel
theorem dX7_hear_80 : decode cX7_hear 80 = .ok (.iconst 1, 1) := by decide +kernel
theorem dX7_hear_81 : decode cX7_hear 81 = .ok (.ireturn, 1) := by decide +kernel
theorem dX7_coin_0 : decode cX7_coin 0 = .ok (.iload_n 1, 1) := by decide +kernel
theorem dX7_coin_1 : decode cX7_coin 1 = .ok (.ifCond .ge 6, 3) := by decide +kernel
theorem dX7_coin_4 : decode cX7_coin 4 = .ok (.bipush (-12), 2) := by decide +kernel
theorem dX7_coin_6 : decode cX7_coin 6 = .ok (.ireturn, 1) := by decide +kernel
theorem dX7_coin_7 : decode cX7_coin 7 = .ok (.aload_n 0, 1) := by decide +kernel
theorem dX7_coin_8 : decode cX7_coin 8 = .ok (.getfield 10, 3) := by decide +kernel
theorem dX7_coin_11 : decode cX7_coin 11 = .ok (.iload_n 1, 1) := by decide +kernel
theorem dX7_coin_12 : decode cX7_coin 12 = .ok (.invokevirtual 85, 3) := by decide +kernel
theorem dX7_coin_15 : decode cX7_coin 15 = .ok (.aload_n 0, 1) := by decide +kernel
theorem dX7_coin_16 : decode cX7_coin 16 = .ok (.getfield 10, 3) := by decide +kernel
theorem dX7_coin_19 : decode cX7_coin 19 = .ok (.invokevirtual 88, 3) := by decide +kernel
theorem dX7_coin_22 : decode cX7_coin 22 = .ok (.ireturn, 1) := by decide +kernel
theorem dX7_threshold_0 : decode cX7_threshold 0 = .ok (.iload_n 1, 1) := by decide +kernel
theorem dX7_threshold_1 : decode cX7_threshold 1 = .ok (.ifCond .lt 9, 3) := by decide +kernel
theorem dX7_threshold_4 : decode cX7_threshold 4 = .ok (.iload_n 1, 1) := by decide +kernel
theorem dX7_threshold_5 : decode cX7_threshold 5 = .ok (.bipush 100, 2) := by decide +kernel
theorem dX7_threshold_7 : decode cX7_threshold 7 = .ok (.if_icmp .le 6, 3) := by decide +kernel
theorem dX7_threshold_10 : decode cX7_threshold 10 = .ok (.bipush (-12), 2) := by decide +kernel
theorem dX7_threshold_12 : decode cX7_threshold 12 = .ok (.ireturn, 1) := by decide +kernel
theorem dX7_threshold_13 : decode cX7_threshold 13 = .ok (.aload_n 0, 1) := by decide +kernel
theorem dX7_threshold_14 : decode cX7_threshold 14 = .ok (.getfield 46, 3) := by decide +kernel
theorem dX7_threshold_17 : decode cX7_threshold 17 = .ok (.istore_n 2, 1) := by decide +kernel
theorem dX7_threshold_18 : decode cX7_threshold 18 = .ok (.aload_n 0, 1) := by decide +kernel
theorem dX7_threshold_19 : decode cX7_threshold 19 = .ok (.iload_n 1, 1) := by decide +kernel
theorem dX7_threshold_20 : decode cX7_threshold 20 = .ok (.putfield 46, 3) := by decide +kernel
theorem dX7_threshold_23 : decode cX7_threshold 23 = .ok (.iload_n 2, 1) := by decide +kernel
theorem dX7_threshold_24 : decode cX7_threshold 24 = .ok (.ireturn, 1) := by decide +kernel
theorem dX7_offer_0 : decode cX7_offer 0 = .ok (.aload_n 0, 1) := by decide +kernel
theorem dX7_offer_1 : decode cX7_offer 1 = .ok (.iload_n 1, 1) := by decide +kernel
theorem dX7_offer_2 : decode cX7_offer 2 = .ok (.invokevirtual 75, 3) := by decide +kernel
theorem dX7_offer_5 : decode cX7_offer 5 = .ok (.ifCond .eq 11, 3) := by decide +kernel
theorem dX7_offer_8 : decode cX7_offer 8 = .ok (.aload_n 0, 1) := by decide +kernel
theorem dX7_offer_9 : decode cX7_offer 9 = .ok (.iload_n 2, 1) := by decide +kernel
theorem dX7_offer_10 : decode cX7_offer 10 = .ok (.invokevirtual 75, 3) := by decide +kernel
theorem dX7_offer_13 : decode cX7_offer 13 = .ok (.ifCond .ne 6, 3) := by decide +kernel
theorem dX7_offer_16 : decode cX7_offer 16 = .ok (.bipush (-11), 2) := by decide +kernel
theorem dX7_offer_18 : decode cX7_offer 18 = .ok (.ireturn, 1) := by decide +kernel
theorem dX7_offer_19 : decode cX7_offer 19 = .ok (.iload_n 1, 1) := by decide +kernel
theorem dX7_offer_20 : decode cX7_offer 20 = .ok (.iload_n 2, 1) := by decide +kernel
theorem dX7_offer_21 : decode cX7_offer 21 = .ok (.if_icmp .eq 14, 3) := by decide +kernel
theorem dX7_offer_24 : decode cX7_offer 24 = .ok (.iload_n 3, 1) := by decide +kernel
theorem dX7_offer_25 : decode cX7_offer 25 = .ok (.iconst 1, 1) := by decide +kernel
theorem dX7_offer_26 : decode cX7_offer 26 = .ok (.if_icmp .lt 9, 3) := by decide +kernel
theorem dX7_offer_29 : decode cX7_offer 29 = .ok (.iload_n 3, 1) := by decide +kernel
theorem dX7_offer_30 : decode cX7_offer 30 = .ok (.bipush 8, 2) := by decide +kernel
theorem dX7_offer_32 : decode cX7_offer 32 = .ok (.if_icmp .le 6, 3) := by decide +kernel
theorem dX7_offer_35 : decode cX7_offer 35 = .ok (.bipush (-12), 2) := by decide +kernel
theorem dX7_offer_37 : decode cX7_offer 37 = .ok (.ireturn, 1) := by decide +kernel
theorem dX7_offer_38 : decode cX7_offer 38 = .ok (.aload_n 0, 1) := by decide +kernel
theorem dX7_offer_39 : decode cX7_offer 39 = .ok (.getfield 68, 3) := by decide +kernel
theorem dX7_offer_42 : decode cX7_offer 42 = .ok (.iload_n 1, 1) := by decide +kernel
theorem dX7_offer_43 : decode cX7_offer 43 = .ok (.aaload, 1) := by decide +kernel
theorem dX7_offer_44 : decode cX7_offer 44 = .ok (.astore 4, 2) := by decide +kernel
theorem dX7_offer_46 : decode cX7_offer 46 = .ok (.aload_n 0, 1) := by decide +kernel
theorem dX7_offer_47 : decode cX7_offer 47 = .ok (.getfield 19, 3) := by decide +kernel
theorem dX7_offer_50 : decode cX7_offer 50 = .ok (.invokevirtual 92, 3) := by decide +kernel
theorem dX7_offer_53 : decode cX7_offer 53 = .ok (.ifCond .ne 14, 3) := by decide +kernel
theorem dX7_offer_56 : decode cX7_offer 56 = .ok (.aload 4, 2) := by decide +kernel
theorem dX7_offer_58 : decode cX7_offer 58 = .ok (.getfield 96, 3) := by decide +kernel
theorem dX7_offer_61 : decode cX7_offer 61 = .ok (.invokevirtual 99, 3) := by decide +kernel
theorem dX7_offer_64 : decode cX7_offer 64 = .ok (.ifCond .eq 6, 3) := by decide +kernel
theorem dX7_offer_67 : decode cX7_offer 67 = .ok (.bipush (-14), 2) := by decide +kernel
theorem dX7_offer_69 : decode cX7_offer 69 = .ok (.ireturn, 1) := by decide +kernel
theorem dX7_offer_70 : decode cX7_offer 70 = .ok (.aload_n 0, 1) := by decide +kernel
theorem dX7_offer_71 : decode cX7_offer 71 = .ok (.getfield 19, 3) := by decide +kernel
theorem dX7_offer_74 : decode cX7_offer 74 = .ok (.iload_n 1, 1) := by decide +kernel
theorem dX7_offer_75 : decode cX7_offer 75 = .ok (.iload_n 2, 1) := by decide +kernel
theorem dX7_offer_76 : decode cX7_offer 76 = .ok (.iload_n 3, 1) := by decide +kernel
theorem dX7_offer_77 : decode cX7_offer 77 = .ok (.invokevirtual 100, 3) := by decide +kernel
theorem dX7_offer_80 : decode cX7_offer 80 = .ok (.istore 5, 2) := by decide +kernel
theorem dX7_offer_82 : decode cX7_offer 82 = .ok (.aload 4, 2) := by decide +kernel
theorem dX7_offer_84 : decode cX7_offer 84 = .ok (.getfield 96, 3) := by decide +kernel
theorem dX7_offer_87 : decode cX7_offer 87 = .ok (.getfield 103, 3) := by decide +kernel
theorem dX7_offer_90 : decode cX7_offer 90 = .ok (.ifCond .ne 9, 3) := by decide +kernel
theorem dX7_offer_93 : decode cX7_offer 93 = .ok (.aload_n 0, 1) := by decide +kernel
theorem dX7_offer_94 : decode cX7_offer 94 = .ok (.aload 4, 2) := by decide +kernel
theorem dX7_offer_96 : decode cX7_offer 96 = .ok (.invokevirtual 106, 3) := by decide +kernel
theorem dX7_offer_99 : decode cX7_offer 99 = .ok (.aload 4, 2) := by decide +kernel
theorem dX7_offer_101 : decode cX7_offer 101 = .ok (.getfield 96, 3) := by decide +kernel
theorem dX7_offer_104 : decode cX7_offer 104 = .ok (.iload 5, 2) := by decide +kernel
theorem dX7_offer_106 : decode cX7_offer 106 = .ok (.invokevirtual 110, 3) := by decide +kernel
theorem dX7_offer_109 : decode cX7_offer 109 = .ok (.iload 5, 2) := by decide +kernel
theorem dX7_offer_111 : decode cX7_offer 111 = .ok (.ireturn, 1) := by decide +kernel
theorem dX7_noise_0 : decode cX7_noise 0 = .ok (.aload_n 0, 1) := by decide +kernel
theorem dX7_noise_1 : decode cX7_noise 1 = .ok (.iload_n 1, 1) := by decide +kernel
theorem dX7_noise_2 : decode cX7_noise 2 = .ok (.invokevirtual 75, 3) := by decide +kernel
theorem dX7_noise_5 : decode cX7_noise 5 = .ok (.ifCond .ne 6, 3) := by decide +kernel
theorem dX7_noise_8 : decode cX7_noise 8 = .ok (.bipush (-11), 2) := by decide +kernel
theorem dX7_noise_10 : decode cX7_noise 10 = .ok (.ireturn, 1) := by decide +kernel
theorem dX7_noise_11 : decode cX7_noise 11 = .ok (.lload_n 2, 1) := by decide +kernel
theorem dX7_noise_12 : decode cX7_noise 12 = .ok (.aload_n 0, 1) := by decide +kernel
theorem dX7_noise_13 : decode cX7_noise 13 = .ok (.getfield 50, 3) := by decide +kernel
theorem dX7_noise_16 : decode cX7_noise 16 = .ok (.lcmp, 1) := by decide +kernel
theorem dX7_noise_17 : decode cX7_noise 17 = .ok (.ifCond .lt 25, 3) := by decide +kernel
theorem dX7_noise_20 : decode cX7_noise 20 = .ok (.lload_n 2, 1) := by decide +kernel
theorem dX7_noise_21 : decode cX7_noise 21 = .ok (.ldc2_w 111, 3) := by decide +kernel
theorem dX7_noise_24 : decode cX7_noise 24 = .ok (.lcmp, 1) := by decide +kernel
theorem dX7_noise_25 : decode cX7_noise 25 = .ok (.ifCond .gt 17, 3) := by decide +kernel
theorem dX7_noise_28 : decode cX7_noise 28 = .ok (.iload 4, 2) := by decide +kernel
theorem dX7_noise_30 : decode cX7_noise 30 = .ok (.iconst 1, 1) := by decide +kernel
theorem dX7_noise_31 : decode cX7_noise 31 = .ok (.if_icmp .lt 11, 3) := by decide +kernel
theorem dX7_noise_34 : decode cX7_noise 34 = .ok (.iload 4, 2) := by decide +kernel
theorem dX7_noise_36 : decode cX7_noise 36 = .ok (.sipush 1000, 3) := by decide +kernel
theorem dX7_noise_39 : decode cX7_noise 39 = .ok (.if_icmp .le 6, 3) := by decide +kernel
theorem dX7_noise_42 : decode cX7_noise 42 = .ok (.bipush (-12), 2) := by decide +kernel
theorem dX7_noise_44 : decode cX7_noise 44 = .ok (.ireturn, 1) := by decide +kernel
theorem dX7_noise_45 : decode cX7_noise 45 = .ok (.aload_n 0, 1) := by decide +kernel
theorem dX7_noise_46 : decode cX7_noise 46 = .ok (.getfield 26, 3) := by decide +kernel
theorem dX7_noise_49 : decode cX7_noise 49 = .ok (.invokevirtual 113, 3) := by decide +kernel
theorem dX7_noise_52 : decode cX7_noise 52 = .ok (.ifCond .eq 6, 3) := by decide +kernel
theorem dX7_noise_55 : decode cX7_noise 55 = .ok (.bipush (-14), 2) := by decide +kernel
theorem dX7_noise_57 : decode cX7_noise 57 = .ok (.ireturn, 1) := by decide +kernel
theorem dX7_noise_58 : decode cX7_noise 58 = .ok (.aload_n 0, 1) := by decide +kernel
theorem dX7_noise_59 : decode cX7_noise 59 = .ok (.getfield 26, 3) := by decide +kernel
theorem dX7_noise_62 : decode cX7_noise 62 = .ok (.iload_n 1, 1) := by decide +kernel
theorem dX7_noise_63 : decode cX7_noise 63 = .ok (.lload_n 2, 1) := by decide +kernel
theorem dX7_noise_64 : decode cX7_noise 64 = .ok (.iload 4, 2) := by decide +kernel
theorem dX7_noise_66 : decode cX7_noise 66 = .ok (.invokevirtual 114, 3) := by decide +kernel
theorem dX7_noise_69 : decode cX7_noise 69 = .ok (.aload_n 0, 1) := by decide +kernel
theorem dX7_noise_70 : decode cX7_noise 70 = .ok (.getfield 26, 3) := by decide +kernel
theorem dX7_noise_73 : decode cX7_noise 73 = .ok (.getfield 117, 3) := by decide +kernel
theorem dX7_noise_76 : decode cX7_noise 76 = .ok (.ireturn, 1) := by decide +kernel
theorem dX7_run_0 : decode cX7_run 0 = .ok (.iload_n 1, 1) := by decide +kernel
theorem dX7_run_1 : decode cX7_run 1 = .ok (.iconst 1, 1) := by decide +kernel
theorem dX7_run_2 : decode cX7_run 2 = .ok (.if_icmp .lt 10, 3) := by decide +kernel
theorem dX7_run_5 : decode cX7_run 5 = .ok (.iload_n 1, 1) := by decide +kernel
theorem dX7_run_6 : decode cX7_run 6 = .ok (.sipush 2000, 3) := by decide +kernel
theorem dX7_run_9 : decode cX7_run 9 = .ok (.if_icmp .le 6, 3) := by decide +kernel
theorem dX7_run_12 : decode cX7_run 12 = .ok (.bipush (-12), 2) := by decide +kernel
theorem dX7_run_14 : decode cX7_run 14 = .ok (.ireturn, 1) := by decide +kernel
theorem dX7_run_15 : decode cX7_run 15 = .ok (.aload_n 0, 1) := by decide +kernel
theorem dX7_run_16 : decode cX7_run 16 = .ok (.getfield 33, 3) := by decide +kernel
theorem dX7_run_19 : decode cX7_run 19 = .ok (.getfield 118, 3) := by decide +kernel
theorem dX7_run_22 : decode cX7_run 22 = .ok (.istore_n 2, 1) := by decide +kernel
theorem dX7_run_23 : decode cX7_run 23 = .ok (.iconst 0, 1) := by decide +kernel
theorem dX7_run_24 : decode cX7_run 24 = .ok (.istore_n 3, 1) := by decide +kernel
theorem dX7_run_25 : decode cX7_run 25 = .ok (.iload_n 3, 1) := by decide +kernel
theorem dX7_run_26 : decode cX7_run 26 = .ok (.iload_n 1, 1) := by decide +kernel
theorem dX7_run_27 : decode cX7_run 27 = .ok (.if_icmp .ge 35, 3) := by decide +kernel
theorem dX7_run_30 : decode cX7_run 30 = .ok (.aload_n 0, 1) := by decide +kernel
theorem dX7_run_31 : decode cX7_run 31 = .ok (.invokevirtual 121, 3) := by decide +kernel
theorem dX7_run_34 : decode cX7_run 34 = .ok (.aload_n 0, 1) := by decide +kernel
theorem dX7_run_35 : decode cX7_run 35 = .ok (.invokevirtual 124, 3) := by decide +kernel
theorem dX7_run_38 : decode cX7_run 38 = .ok (.aload_n 0, 1) := by decide +kernel
theorem dX7_run_39 : decode cX7_run 39 = .ok (.invokevirtual 127, 3) := by decide +kernel
theorem dX7_run_42 : decode cX7_run 42 = .ok (.aload_n 0, 1) := by decide +kernel
theorem dX7_run_43 : decode cX7_run 43 = .ok (.invokevirtual 130, 3) := by decide +kernel
theorem dX7_run_46 : decode cX7_run 46 = .ok (.aload_n 0, 1) := by decide +kernel
theorem dX7_run_47 : decode cX7_run 47 = .ok (.dup, 1) := by decide +kernel
theorem dX7_run_48 : decode cX7_run 48 = .ok (.getfield 50, 3) := by decide +kernel
theorem dX7_run_51 : decode cX7_run 51 = .ok (.lconst 1, 1) := by decide +kernel
theorem dX7_run_52 : decode cX7_run 52 = .ok (.ladd, 1) := by decide +kernel
theorem dX7_run_53 : decode cX7_run 53 = .ok (.putfield 50, 3) := by decide +kernel
theorem dX7_run_56 : decode cX7_run 56 = .ok (.iinc 3 1, 3) := by decide +kernel
theorem dX7_run_59 : decode cX7_run 59 = .ok (.goto (-34), 3) := by decide +kernel
theorem dX7_run_62 : decode cX7_run 62 = .ok (.aload_n 0, 1) := by decide +kernel
theorem dX7_run_63 : decode cX7_run 63 = .ok (.getfield 33, 3) := by decide +kernel
theorem dX7_run_66 : decode cX7_run 66 = .ok (.getfield 118, 3) := by decide +kernel
theorem dX7_run_69 : decode cX7_run 69 = .ok (.iload_n 2, 1) := by decide +kernel
theorem dX7_run_70 : decode cX7_run 70 = .ok (.isub, 1) := by decide +kernel
theorem dX7_run_71 : decode cX7_run 71 = .ok (.ireturn, 1) := by decide +kernel
theorem dX7_event_0 : decode cX7_event 0 = .ok (.iload_n 1, 1) := by decide +kernel
theorem dX7_event_1 : decode cX7_event 1 = .ok (.ifCond .lt 14, 3) := by decide +kernel
theorem dX7_event_4 : decode cX7_event 4 = .ok (.iload_n 1, 1) := by decide +kernel
theorem dX7_event_5 : decode cX7_event 5 = .ok (.aload_n 0, 1) := by decide +kernel
theorem dX7_event_6 : decode cX7_event 6 = .ok (.getfield 33, 3) := by decide +kernel
theorem dX7_event_9 : decode cX7_event 9 = .ok (.invokevirtual 133, 3) := by decide +kernel
theorem dX7_event_12 : decode cX7_event 12 = .ok (.if_icmp .lt 5, 3) := by decide +kernel
theorem dX7_event_15 : decode cX7_event 15 = .ok (.iconst (-1), 1) := by decide +kernel
theorem dX7_event_16 : decode cX7_event 16 = .ok (.ireturn, 1) := by decide +kernel
theorem dX7_event_17 : decode cX7_event 17 = .ok (.iload_n 2, 1) := by decide +kernel
theorem dX7_event_18 : decode cX7_event 18 = .ok (.tableswitch 56 0 2 #[26, 36, 46], 26) := by decide +kernel
theorem dX7_event_44 : decode cX7_event 44 = .ok (.aload_n 0, 1) := by decide +kernel
theorem dX7_event_45 : decode cX7_event 45 = .ok (.getfield 33, 3) := by decide +kernel
theorem dX7_event_48 : decode cX7_event 48 = .ok (.getfield 136, 3) := by decide +kernel
theorem dX7_event_51 : decode cX7_event 51 = .ok (.iload_n 1, 1) := by decide +kernel
theorem dX7_event_52 : decode cX7_event 52 = .ok (.iaload, 1) := by decide +kernel
theorem dX7_event_53 : decode cX7_event 53 = .ok (.ireturn, 1) := by decide +kernel
theorem dX7_event_54 : decode cX7_event 54 = .ok (.aload_n 0, 1) := by decide +kernel
theorem dX7_event_55 : decode cX7_event 55 = .ok (.getfield 33, 3) := by decide +kernel
theorem dX7_event_58 : decode cX7_event 58 = .ok (.getfield 140, 3) := by decide +kernel
theorem dX7_event_61 : decode cX7_event 61 = .ok (.iload_n 1, 1) := by decide +kernel
theorem dX7_event_62 : decode cX7_event 62 = .ok (.iaload, 1) := by decide +kernel
theorem dX7_event_63 : decode cX7_event 63 = .ok (.ireturn, 1) := by decide +kernel
theorem dX7_event_64 : decode cX7_event 64 = .ok (.aload_n 0, 1) := by decide +kernel
theorem dX7_event_65 : decode cX7_event 65 = .ok (.getfield 33, 3) := by decide +kernel
theorem dX7_event_68 : decode cX7_event 68 = .ok (.getfield 143, 3) := by decide +kernel
theorem dX7_event_71 : decode cX7_event 71 = .ok (.iload_n 1, 1) := by decide +kernel
theorem dX7_event_72 : decode cX7_event 72 = .ok (.iaload, 1) := by decide +kernel
theorem dX7_event_73 : decode cX7_event 73 = .ok (.ireturn, 1) := by decide +kernel
theorem dX7_event_74 : decode cX7_event 74 = .ok (.iconst (-1), 1) := by decide +kernel
theorem dX7_event_75 : decode cX7_event 75 = .ok (.ireturn, 1) := by decide +kernel
theorem dX7_state_0 : decode cX7_state 0 = .ok (.aload_n 0, 1) := by decide +kernel
theorem dX7_state_1 : decode cX7_state 1 = .ok (.iload_n 1, 1) := by decide +kernel
theorem dX7_state_2 : decode cX7_state 2 = .ok (.invokevirtual 75, 3) := by decide +kernel
theorem dX7_state_5 : decode cX7_state 5 = .ok (.ifCond .ne 6, 3) := by decide +kernel
theorem dX7_state_8 : decode cX7_state 8 = .ok (.bipush (-11), 2) := by decide +kernel
theorem dX7_state_10 : decode cX7_state 10 = .ok (.ireturn, 1) := by decide +kernel
theorem dX7_state_11 : decode cX7_state 11 = .ok (.aload_n 0, 1) := by decide +kernel
theorem dX7_state_12 : decode cX7_state 12 = .ok (.getfield 68, 3) := by decide +kernel
theorem dX7_state_15 : decode cX7_state 15 = .ok (.iload_n 1, 1) := by decide +kernel
theorem dX7_state_16 : decode cX7_state 16 = .ok (.aaload, 1) := by decide +kernel
theorem dX7_state_17 : decode cX7_state 17 = .ok (.astore_n 3, 1) := by decide +kernel
theorem dX7_state_18 : decode cX7_state 18 = .ok (.iload_n 2, 1) := by decide +kernel
theorem dX7_state_19 : decode cX7_state 19 = .ok (.tableswitch 101 0 7 #[45, 50, 55, 60, 75, 83, 88, 93], 45) := by decide +kernel
theorem dX7_state_64 : decode cX7_state 64 = .ok (.aload_n 3, 1) := by decide +kernel
theorem dX7_state_65 : decode cX7_state 65 = .ok (.getfield 146, 3) := by decide +kernel
theorem dX7_state_68 : decode cX7_state 68 = .ok (.ireturn, 1) := by decide +kernel
theorem dX7_state_69 : decode cX7_state 69 = .ok (.aload_n 3, 1) := by decide +kernel
theorem dX7_state_70 : decode cX7_state 70 = .ok (.getfield 149, 3) := by decide +kernel
theorem dX7_state_73 : decode cX7_state 73 = .ok (.ireturn, 1) := by decide +kernel
theorem dX7_state_74 : decode cX7_state 74 = .ok (.aload_n 3, 1) := by decide +kernel
theorem dX7_state_75 : decode cX7_state 75 = .ok (.getfield 152, 3) := by decide +kernel
theorem dX7_state_78 : decode cX7_state 78 = .ok (.ireturn, 1) := by decide +kernel
theorem dX7_state_79 : decode cX7_state 79 = .ok (.lconst 0, 1) := by decide +kernel
theorem dX7_state_80 : decode cX7_state 80 = .ok (.aload_n 3, 1) := by decide +kernel
theorem dX7_state_81 : decode cX7_state 81 = .ok (.getfield 155, 3) := by decide +kernel
theorem dX7_state_84 : decode cX7_state 84 = .ok (.aload_n 0, 1) := by decide +kernel
theorem dX7_state_85 : decode cX7_state 85 = .ok (.getfield 50, 3) := by decide +kernel
theorem dX7_state_88 : decode cX7_state 88 = .ok (.lsub, 1) := by decide +kernel
theorem dX7_state_89 : decode cX7_state 89 = .ok (.invokestatic 158, 3) := by decide +kernel
theorem dX7_state_92 : decode cX7_state 92 = .ok (.l2i, 1) := by decide +kernel
theorem dX7_state_93 : decode cX7_state 93 = .ok (.ireturn, 1) := by decide +kernel
theorem dX7_state_94 : decode cX7_state 94 = .ok (.aload_n 3, 1) := by decide +kernel
theorem dX7_state_95 : decode cX7_state 95 = .ok (.getfield 161, 3) := by decide +kernel
theorem dX7_state_98 : decode cX7_state 98 = .ok (.getfield 165, 3) := by decide +kernel
theorem dX7_state_101 : decode cX7_state 101 = .ok (.ireturn, 1) := by decide +kernel
theorem dX7_state_102 : decode cX7_state 102 = .ok (.aload_n 3, 1) := by decide +kernel
theorem dX7_state_103 : decode cX7_state 103 = .ok (.getfield 169, 3) := by decide +kernel
theorem dX7_state_106 : decode cX7_state 106 = .ok (.ireturn, 1) := by decide +kernel
theorem dX7_state_107 : decode cX7_state 107 = .ok (.aload_n 3, 1) := by decide +kernel
theorem dX7_state_108 : decode cX7_state 108 = .ok (.getfield 172, 3) := by decide +kernel
theorem dX7_state_111 : decode cX7_state 111 = .ok (.ireturn, 1) := by decide +kernel
theorem dX7_state_112 : decode cX7_state 112 = .ok (.aload_n 3, 1) := by decide +kernel
theorem dX7_state_113 : decode cX7_state 113 = .ok (.getfield 96, 3) := by decide +kernel
theorem dX7_state_116 : decode cX7_state 116 = .ok (.getfield 103, 3) := by decide +kernel
theorem dX7_state_119 : decode cX7_state 119 = .ok (.ireturn, 1) := by decide +kernel
theorem dX7_state_120 : decode cX7_state 120 = .ok (.bipush (-12), 2) := by decide +kernel
theorem dX7_state_122 : decode cX7_state 122 = .ok (.ireturn, 1) := by decide +kernel
theorem dX7_sent_0 : decode cX7_sent 0 = .ok (.aload_n 0, 1) := by decide +kernel
theorem dX7_sent_1 : decode cX7_sent 1 = .ok (.iload_n 1, 1) := by decide +kernel
theorem dX7_sent_2 : decode cX7_sent 2 = .ok (.invokevirtual 75, 3) := by decide +kernel
theorem dX7_sent_5 : decode cX7_sent 5 = .ok (.ifCond .ne 6, 3) := by decide +kernel
theorem dX7_sent_8 : decode cX7_sent 8 = .ok (.bipush (-11), 2) := by decide +kernel
theorem dX7_sent_10 : decode cX7_sent 10 = .ok (.ireturn, 1) := by decide +kernel
theorem dX7_sent_11 : decode cX7_sent 11 = .ok (.iload_n 2, 1) := by decide +kernel
theorem dX7_sent_12 : decode cX7_sent 12 = .ok (.iconst 1, 1) := by decide +kernel
theorem dX7_sent_13 : decode cX7_sent 13 = .ok (.if_icmp .lt 8, 3) := by decide +kernel
theorem dX7_sent_16 : decode cX7_sent 16 = .ok (.iload_n 2, 1) := by decide +kernel
theorem dX7_sent_17 : decode cX7_sent 17 = .ok (.iconst 4, 1) := by decide +kernel
theorem dX7_sent_18 : decode cX7_sent 18 = .ok (.if_icmp .le 6, 3) := by decide +kernel
theorem dX7_sent_21 : decode cX7_sent 21 = .ok (.bipush (-12), 2) := by decide +kernel
theorem dX7_sent_23 : decode cX7_sent 23 = .ok (.ireturn, 1) := by decide +kernel
theorem dX7_sent_24 : decode cX7_sent 24 = .ok (.aload_n 0, 1) := by decide +kernel
theorem dX7_sent_25 : decode cX7_sent 25 = .ok (.getfield 68, 3) := by decide +kernel
theorem dX7_sent_28 : decode cX7_sent 28 = .ok (.iload_n 1, 1) := by decide +kernel
theorem dX7_sent_29 : decode cX7_sent 29 = .ok (.aaload, 1) := by decide +kernel
theorem dX7_sent_30 : decode cX7_sent 30 = .ok (.getfield 175, 3) := by decide +kernel
theorem dX7_sent_33 : decode cX7_sent 33 = .ok (.iload_n 2, 1) := by decide +kernel
theorem dX7_sent_34 : decode cX7_sent 34 = .ok (.iaload, 1) := by decide +kernel
theorem dX7_sent_35 : decode cX7_sent 35 = .ok (.ireturn, 1) := by decide +kernel
theorem dX7_now_0 : decode cX7_now 0 = .ok (.aload_n 0, 1) := by decide +kernel
theorem dX7_now_1 : decode cX7_now 1 = .ok (.getfield 50, 3) := by decide +kernel
theorem dX7_now_4 : decode cX7_now 4 = .ok (.lreturn, 1) := by decide +kernel
theorem dX7_isStation_0 : decode cX7_isStation 0 = .ok (.iload_n 1, 1) := by decide +kernel
theorem dX7_isStation_1 : decode cX7_isStation 1 = .ok (.ifCond .lt 16, 3) := by decide +kernel
theorem dX7_isStation_4 : decode cX7_isStation 4 = .ok (.iload_n 1, 1) := by decide +kernel
theorem dX7_isStation_5 : decode cX7_isStation 5 = .ok (.aload_n 0, 1) := by decide +kernel
theorem dX7_isStation_6 : decode cX7_isStation 6 = .ok (.getfield 68, 3) := by decide +kernel
theorem dX7_isStation_9 : decode cX7_isStation 9 = .ok (.arraylength, 1) := by decide +kernel
theorem dX7_isStation_10 : decode cX7_isStation 10 = .ok (.if_icmp .ge 7, 3) := by decide +kernel
theorem dX7_isStation_13 : decode cX7_isStation 13 = .ok (.iconst 1, 1) := by decide +kernel
theorem dX7_isStation_14 : decode cX7_isStation 14 = .ok (.goto 4, 3) := by decide +kernel
theorem dX7_isStation_17 : decode cX7_isStation 17 = .ok (.iconst 0, 1) := by decide +kernel
theorem dX7_isStation_18 : decode cX7_isStation 18 = .ok (.ireturn, 1) := by decide +kernel
theorem dX7_drawCount_0 : decode cX7_drawCount 0 = .ok (.aload_n 1, 1) := by decide +kernel
theorem dX7_drawCount_1 : decode cX7_drawCount 1 = .ok (.aload_n 0, 1) := by decide +kernel
theorem dX7_drawCount_2 : decode cX7_drawCount 2 = .ok (.getfield 10, 3) := by decide +kernel
theorem dX7_drawCount_5 : decode cX7_drawCount 5 = .ok (.aload_n 1, 1) := by decide +kernel
theorem dX7_drawCount_6 : decode cX7_drawCount 6 = .ok (.getfield 146, 3) := by decide +kernel
theorem dX7_drawCount_9 : decode cX7_drawCount 9 = .ok (.iconst 1, 1) := by decide +kernel
theorem dX7_drawCount_10 : decode cX7_drawCount 10 = .ok (.iadd, 1) := by decide +kernel
theorem dX7_drawCount_11 : decode cX7_drawCount 11 = .ok (.invokevirtual 178, 3) := by decide +kernel
theorem dX7_drawCount_14 : decode cX7_drawCount 14 = .ok (.putfield 149, 3) := by decide +kernel
theorem dX7_drawCount_17 : decode cX7_drawCount 17 = .ok (.return_, 1) := by decide +kernel
theorem dX7_beginFrames_0 : decode cX7_beginFrames 0 = .ok (.aload_n 0, 1) := by decide +kernel
theorem dX7_beginFrames_1 : decode cX7_beginFrames 1 = .ok (.iconst 0, 1) := by decide +kernel
theorem dX7_beginFrames_2 : decode cX7_beginFrames 2 = .ok (.putfield 54, 3) := by decide +kernel
theorem dX7_beginFrames_5 : decode cX7_beginFrames 5 = .ok (.aload_n 0, 1) := by decide +kernel
theorem dX7_beginFrames_6 : decode cX7_beginFrames 6 = .ok (.getfield 68, 3) := by decide +kernel
theorem dX7_beginFrames_9 : decode cX7_beginFrames 9 = .ok (.astore_n 1, 1) := by decide +kernel
theorem dX7_beginFrames_10 : decode cX7_beginFrames 10 = .ok (.aload_n 1, 1) := by decide +kernel
theorem dX7_beginFrames_11 : decode cX7_beginFrames 11 = .ok (.arraylength, 1) := by decide +kernel
theorem dX7_beginFrames_12 : decode cX7_beginFrames 12 = .ok (.istore_n 2, 1) := by decide +kernel
theorem dX7_beginFrames_13 : decode cX7_beginFrames 13 = .ok (.iconst 0, 1) := by decide +kernel
theorem dX7_beginFrames_14 : decode cX7_beginFrames 14 = .ok (.istore_n 3, 1) := by decide +kernel
theorem dX7_beginFrames_15 : decode cX7_beginFrames 15 = .ok (.iload_n 3, 1) := by decide +kernel
theorem dX7_beginFrames_16 : decode cX7_beginFrames 16 = .ok (.iload_n 2, 1) := by decide +kernel
theorem dX7_beginFrames_17 : decode cX7_beginFrames 17 = .ok (.if_icmp .ge 116, 3) := by decide +kernel
theorem dX7_beginFrames_20 : decode cX7_beginFrames 20 = .ok (.aload_n 1, 1) := by decide +kernel
theorem dX7_beginFrames_21 : decode cX7_beginFrames 21 = .ok (.iload_n 3, 1) := by decide +kernel
theorem dX7_beginFrames_22 : decode cX7_beginFrames 22 = .ok (.aaload, 1) := by decide +kernel
theorem dX7_beginFrames_23 : decode cX7_beginFrames 23 = .ok (.astore 4, 2) := by decide +kernel
theorem dX7_beginFrames_25 : decode cX7_beginFrames 25 = .ok (.aload 4, 2) := by decide +kernel
theorem dX7_beginFrames_27 : decode cX7_beginFrames 27 = .ok (.getfield 182, 3) := by decide +kernel
theorem dX7_beginFrames_30 : decode cX7_beginFrames 30 = .ok (.ifCond .eq 22, 3) := by decide +kernel
theorem dX7_beginFrames_33 : decode cX7_beginFrames 33 = .ok (.aload 4, 2) := by decide +kernel
theorem dX7_beginFrames_35 : decode cX7_beginFrames 35 = .ok (.getfield 185, 3) := by decide +kernel
theorem dX7_beginFrames_38 : decode cX7_beginFrames 38 = .ok (.aload_n 0, 1) := by decide +kernel
theorem dX7_beginFrames_39 : decode cX7_beginFrames 39 = .ok (.getfield 50, 3) := by decide +kernel
theorem dX7_beginFrames_42 : decode cX7_beginFrames 42 = .ok (.lcmp, 1) := by decide +kernel
theorem dX7_beginFrames_43 : decode cX7_beginFrames 43 = .ok (.ifCond .gt 9, 3) := by decide +kernel
theorem dX7_beginFrames_46 : decode cX7_beginFrames 46 = .ok (.aload_n 0, 1) := by decide +kernel
theorem dX7_beginFrames_47 : decode cX7_beginFrames 47 = .ok (.aload 4, 2) := by decide +kernel
theorem dX7_beginFrames_49 : decode cX7_beginFrames 49 = .ok (.invokevirtual 188, 3) := by decide +kernel
theorem dX7_beginFrames_52 : decode cX7_beginFrames 52 = .ok (.aload 4, 2) := by decide +kernel
theorem dX7_beginFrames_54 : decode cX7_beginFrames 54 = .ok (.getfield 191, 3) := by decide +kernel
theorem dX7_beginFrames_57 : decode cX7_beginFrames 57 = .ok (.getfield 165, 3) := by decide +kernel
theorem dX7_beginFrames_60 : decode cX7_beginFrames 60 = .ok (.ifCond .eq 24, 3) := by decide +kernel
theorem dX7_beginFrames_63 : decode cX7_beginFrames 63 = .ok (.aload 4, 2) := by decide +kernel
theorem dX7_beginFrames_65 : decode cX7_beginFrames 65 = .ok (.getfield 194, 3) := by decide +kernel
theorem dX7_beginFrames_68 : decode cX7_beginFrames 68 = .ok (.aload_n 0, 1) := by decide +kernel
theorem dX7_beginFrames_69 : decode cX7_beginFrames 69 = .ok (.getfield 50, 3) := by decide +kernel
theorem dX7_beginFrames_72 : decode cX7_beginFrames 72 = .ok (.lcmp, 1) := by decide +kernel
theorem dX7_beginFrames_73 : decode cX7_beginFrames 73 = .ok (.ifCond .gt 11, 3) := by decide +kernel
theorem dX7_beginFrames_76 : decode cX7_beginFrames 76 = .ok (.aload 4, 2) := by decide +kernel
theorem dX7_beginFrames_78 : decode cX7_beginFrames 78 = .ok (.invokevirtual 197, 3) := by decide +kernel
theorem dX7_beginFrames_81 : decode cX7_beginFrames 81 = .ok (.goto 21, 3) := by decide +kernel
theorem dX7_beginFrames_84 : decode cX7_beginFrames 84 = .ok (.aload 4, 2) := by decide +kernel
theorem dX7_beginFrames_86 : decode cX7_beginFrames 86 = .ok (.aload_n 0, 1) := by decide +kernel
theorem dX7_beginFrames_87 : decode cX7_beginFrames 87 = .ok (.getfield 50, 3) := by decide +kernel
theorem dX7_beginFrames_90 : decode cX7_beginFrames 90 = .ok (.invokevirtual 200, 3) := by decide +kernel
theorem dX7_beginFrames_93 : decode cX7_beginFrames 93 = .ok (.ifCond .eq 9, 3) := by decide +kernel
theorem dX7_beginFrames_96 : decode cX7_beginFrames 96 = .ok (.aload_n 0, 1) := by decide +kernel
theorem dX7_beginFrames_97 : decode cX7_beginFrames 97 = .ok (.aload 4, 2) := by decide +kernel
theorem dX7_beginFrames_99 : decode cX7_beginFrames 99 = .ok (.invokevirtual 204, 3) := by decide +kernel
theorem dX7_beginFrames_102 : decode cX7_beginFrames 102 = .ok (.aload 4, 2) := by decide +kernel
theorem dX7_beginFrames_104 : decode cX7_beginFrames 104 = .ok (.getfield 161, 3) := by decide +kernel
theorem dX7_beginFrames_107 : decode cX7_beginFrames 107 = .ok (.getfield 165, 3) := by decide +kernel
theorem dX7_beginFrames_110 : decode cX7_beginFrames 110 = .ok (.ifCond .eq 17, 3) := by decide +kernel
theorem dX7_beginFrames_113 : decode cX7_beginFrames 113 = .ok (.aload_n 0, 1) := by decide +kernel
theorem dX7_beginFrames_114 : decode cX7_beginFrames 114 = .ok (.dup, 1) := by decide +kernel
theorem dX7_beginFrames_115 : decode cX7_beginFrames 115 = .ok (.getfield 54, 3) := by decide +kernel
theorem dX7_beginFrames_118 : decode cX7_beginFrames 118 = .ok (.aload 4, 2) := by decide +kernel
theorem dX7_beginFrames_120 : decode cX7_beginFrames 120 = .ok (.getfield 79, 3) := by decide +kernel
theorem dX7_beginFrames_123 : decode cX7_beginFrames 123 = .ok (.ior, 1) := by decide +kernel
theorem dX7_beginFrames_124 : decode cX7_beginFrames 124 = .ok (.putfield 54, 3) := by decide +kernel
theorem dX7_beginFrames_127 : decode cX7_beginFrames 127 = .ok (.iinc 3 1, 3) := by decide +kernel
theorem dX7_beginFrames_130 : decode cX7_beginFrames 130 = .ok (.goto (-115), 3) := by decide +kernel
theorem dX7_beginFrames_133 : decode cX7_beginFrames 133 = .ok (.return_, 1) := by decide +kernel
theorem dX7_beginAttempt_0 : decode cX7_beginAttempt 0 = .ok (.aload_n 1, 1) := by decide +kernel
theorem dX7_beginAttempt_1 : decode cX7_beginAttempt 1 = .ok (.getfield 207, 3) := by decide +kernel
theorem dX7_beginAttempt_4 : decode cX7_beginAttempt 4 = .ok (.astore_n 2, 1) := by decide +kernel
theorem dX7_beginAttempt_5 : decode cX7_beginAttempt 5 = .ok (.aload_n 0, 1) := by decide +kernel
theorem dX7_beginAttempt_6 : decode cX7_beginAttempt 6 = .ok (.getfield 19, 3) := by decide +kernel
theorem dX7_beginAttempt_9 : decode cX7_beginAttempt 9 = .ok (.aload_n 1, 1) := by decide +kernel
theorem dX7_beginAttempt_10 : decode cX7_beginAttempt 10 = .ok (.getfield 96, 3) := by decide +kernel
theorem dX7_beginAttempt_13 : decode cX7_beginAttempt 13 = .ok (.aload_n 2, 1) := by decide +kernel
theorem dX7_beginAttempt_14 : decode cX7_beginAttempt 14 = .ok (.invokevirtual 210, 3) := by decide +kernel
theorem dX7_beginAttempt_17 : decode cX7_beginAttempt 17 = .ok (.aload_n 0, 1) := by decide +kernel
theorem dX7_beginAttempt_18 : decode cX7_beginAttempt 18 = .ok (.getfield 19, 3) := by decide +kernel
theorem dX7_beginAttempt_21 : decode cX7_beginAttempt 21 = .ok (.aload_n 2, 1) := by decide +kernel
theorem dX7_beginAttempt_22 : decode cX7_beginAttempt 22 = .ok (.invokevirtual 214, 3) := by decide +kernel
theorem dX7_beginAttempt_25 : decode cX7_beginAttempt 25 = .ok (.istore_n 3, 1) := by decide +kernel
theorem dX7_beginAttempt_26 : decode cX7_beginAttempt 26 = .ok (.aload_n 0, 1) := by decide +kernel
theorem dX7_beginAttempt_27 : decode cX7_beginAttempt 27 = .ok (.getfield 19, 3) := by decide +kernel
theorem dX7_beginAttempt_30 : decode cX7_beginAttempt 30 = .ok (.aload_n 2, 1) := by decide +kernel
theorem dX7_beginAttempt_31 : decode cX7_beginAttempt 31 = .ok (.invokevirtual 218, 3) := by decide +kernel
theorem dX7_beginAttempt_34 : decode cX7_beginAttempt 34 = .ok (.istore 4, 2) := by decide +kernel
theorem dX7_beginAttempt_36 : decode cX7_beginAttempt 36 = .ok (.iload 4, 2) := by decide +kernel
theorem dX7_beginAttempt_38 : decode cX7_beginAttempt 38 = .ok (.aload_n 0, 1) := by decide +kernel
theorem dX7_beginAttempt_39 : decode cX7_beginAttempt 39 = .ok (.getfield 46, 3) := by decide +kernel
theorem dX7_beginAttempt_42 : decode cX7_beginAttempt 42 = .ok (.if_icmp .lt 17, 3) := by decide +kernel
theorem dX7_beginAttempt_45 : decode cX7_beginAttempt 45 = .ok (.aload_n 1, 1) := by decide +kernel
theorem dX7_beginAttempt_46 : decode cX7_beginAttempt 46 = .ok (.getfield 161, 3) := by decide +kernel
theorem dX7_beginAttempt_49 : decode cX7_beginAttempt 49 = .ok (.iconst 1, 1) := by decide +kernel
theorem dX7_beginAttempt_50 : decode cX7_beginAttempt 50 = .ok (.iload_n 3, 1) := by decide +kernel
theorem dX7_beginAttempt_51 : decode cX7_beginAttempt 51 = .ok (.iload 4, 2) := by decide +kernel
theorem dX7_beginAttempt_53 : decode cX7_beginAttempt 53 = .ok (.invokevirtual 221, 3) := by decide +kernel
theorem dX7_beginAttempt_56 : decode cX7_beginAttempt 56 = .ok (.goto 25, 3) := by decide +kernel
theorem dX7_beginAttempt_59 : decode cX7_beginAttempt 59 = .ok (.aload_n 1, 1) := by decide +kernel
theorem dX7_beginAttempt_60 : decode cX7_beginAttempt 60 = .ok (.getfield 161, 3) := by decide +kernel
theorem dX7_beginAttempt_63 : decode cX7_beginAttempt 63 = .ok (.iconst 3, 1) := by decide +kernel
theorem dX7_beginAttempt_64 : decode cX7_beginAttempt 64 = .ok (.iload_n 3, 1) := by decide +kernel
theorem dX7_beginAttempt_65 : decode cX7_beginAttempt 65 = .ok (.iload 4, 2) := by decide +kernel
theorem dX7_beginAttempt_67 : decode cX7_beginAttempt 67 = .ok (.invokevirtual 221, 3) := by decide +kernel
theorem dX7_beginAttempt_70 : decode cX7_beginAttempt 70 = .ok (.aload_n 1, 1) := by decide +kernel
theorem dX7_beginAttempt_71 : decode cX7_beginAttempt 71 = .ok (.getfield 161, 3) := by decide +kernel
theorem dX7_beginAttempt_74 : decode cX7_beginAttempt 74 = .ok (.getfield 225, 3) := by decide +kernel
theorem dX7_beginAttempt_77 : decode cX7_beginAttempt 77 = .ok (.aload_n 2, 1) := by decide +kernel
theorem dX7_beginAttempt_78 : decode cX7_beginAttempt 78 = .ok (.invokevirtual 228, 3) := by decide +kernel
theorem dX7_beginAttempt_81 : decode cX7_beginAttempt 81 = .ok (.aload_n 1, 1) := by decide +kernel
theorem dX7_beginAttempt_82 : decode cX7_beginAttempt 82 = .ok (.invokevirtual 232, 3) := by decide +kernel
theorem dX7_beginAttempt_85 : decode cX7_beginAttempt 85 = .ok (.return_, 1) := by decide +kernel
theorem dX7_failAttempt_0 : decode cX7_failAttempt 0 = .ok (.aload_n 1, 1) := by decide +kernel
theorem dX7_failAttempt_1 : decode cX7_failAttempt 1 = .ok (.iconst 0, 1) := by decide +kernel
theorem dX7_failAttempt_2 : decode cX7_failAttempt 2 = .ok (.putfield 182, 3) := by decide +kernel
theorem dX7_failAttempt_5 : decode cX7_failAttempt 5 = .ok (.aload_n 1, 1) := by decide +kernel
theorem dX7_failAttempt_6 : decode cX7_failAttempt 6 = .ok (.dup, 1) := by decide +kernel
theorem dX7_failAttempt_7 : decode cX7_failAttempt 7 = .ok (.getfield 152, 3) := by decide +kernel
theorem dX7_failAttempt_10 : decode cX7_failAttempt 10 = .ok (.iconst 1, 1) := by decide +kernel
theorem dX7_failAttempt_11 : decode cX7_failAttempt 11 = .ok (.iadd, 1) := by decide +kernel
theorem dX7_failAttempt_12 : decode cX7_failAttempt 12 = .ok (.putfield 152, 3) := by decide +kernel
theorem dX7_failAttempt_15 : decode cX7_failAttempt 15 = .ok (.aload_n 1, 1) := by decide +kernel
theorem dX7_failAttempt_16 : decode cX7_failAttempt 16 = .ok (.getfield 152, 3) := by decide +kernel
theorem dX7_failAttempt_19 : decode cX7_failAttempt 19 = .ok (.iconst 4, 1) := by decide +kernel
theorem dX7_failAttempt_20 : decode cX7_failAttempt 20 = .ok (.if_icmp .le 40, 3) := by decide +kernel
theorem dX7_failAttempt_23 : decode cX7_failAttempt 23 = .ok (.aload_n 1, 1) := by decide +kernel
theorem dX7_failAttempt_24 : decode cX7_failAttempt 24 = .ok (.getfield 207, 3) := by decide +kernel
theorem dX7_failAttempt_27 : decode cX7_failAttempt 27 = .ok (.iconst 0, 1) := by decide +kernel
theorem dX7_failAttempt_28 : decode cX7_failAttempt 28 = .ok (.invokevirtual 235, 3) := by decide +kernel
theorem dX7_failAttempt_31 : decode cX7_failAttempt 31 = .ok (.istore_n 2, 1) := by decide +kernel
theorem dX7_failAttempt_32 : decode cX7_failAttempt 32 = .ok (.aload_n 1, 1) := by decide +kernel
theorem dX7_failAttempt_33 : decode cX7_failAttempt 33 = .ok (.getfield 96, 3) := by decide +kernel
theorem dX7_failAttempt_36 : decode cX7_failAttempt 36 = .ok (.iload_n 2, 1) := by decide +kernel
theorem dX7_failAttempt_37 : decode cX7_failAttempt 37 = .ok (.invokevirtual 238, 3) := by decide +kernel
theorem dX7_failAttempt_40 : decode cX7_failAttempt 40 = .ok (.aload_n 0, 1) := by decide +kernel
theorem dX7_failAttempt_41 : decode cX7_failAttempt 41 = .ok (.getfield 33, 3) := by decide +kernel
theorem dX7_failAttempt_44 : decode cX7_failAttempt 44 = .ok (.iload_n 2, 1) := by decide +kernel
theorem dX7_failAttempt_45 : decode cX7_failAttempt 45 = .ok (.iconst 2, 1) := by decide +kernel
theorem dX7_failAttempt_46 : decode cX7_failAttempt 46 = .ok (.aload_n 0, 1) := by decide +kernel
theorem dX7_failAttempt_47 : decode cX7_failAttempt 47 = .ok (.getfield 50, 3) := by decide +kernel
theorem dX7_failAttempt_50 : decode cX7_failAttempt 50 = .ok (.invokevirtual 241, 3) := by decide +kernel
theorem dX7_failAttempt_53 : decode cX7_failAttempt 53 = .ok (.aload_n 1, 1) := by decide +kernel
theorem dX7_failAttempt_54 : decode cX7_failAttempt 54 = .ok (.invokevirtual 244, 3) := by decide +kernel
theorem dX7_failAttempt_57 : decode cX7_failAttempt 57 = .ok (.goto 20, 3) := by decide +kernel
theorem dX7_failAttempt_60 : decode cX7_failAttempt 60 = .ok (.aload_n 1, 1) := by decide +kernel
theorem dX7_failAttempt_61 : decode cX7_failAttempt 61 = .ok (.iconst 2, 1) := by decide +kernel
theorem dX7_failAttempt_62 : decode cX7_failAttempt 62 = .ok (.aload_n 1, 1) := by decide +kernel
theorem dX7_failAttempt_63 : decode cX7_failAttempt 63 = .ok (.getfield 146, 3) := by decide +kernel
theorem dX7_failAttempt_66 : decode cX7_failAttempt 66 = .ok (.imul, 1) := by decide +kernel
theorem dX7_failAttempt_67 : decode cX7_failAttempt 67 = .ok (.iconst 1, 1) := by decide +kernel
theorem dX7_failAttempt_68 : decode cX7_failAttempt 68 = .ok (.iadd, 1) := by decide +kernel
theorem dX7_failAttempt_69 : decode cX7_failAttempt 69 = .ok (.bipush 63, 2) := by decide +kernel
theorem dX7_failAttempt_71 : decode cX7_failAttempt 71 = .ok (.invokestatic 57, 3) := by decide +kernel
theorem dX7_failAttempt_74 : decode cX7_failAttempt 74 = .ok (.putfield 146, 3) := by decide +kernel
theorem dX7_failAttempt_77 : decode cX7_failAttempt 77 = .ok (.aload_n 1, 1) := by decide +kernel
theorem dX7_failAttempt_78 : decode cX7_failAttempt 78 = .ok (.getfield 96, 3) := by decide +kernel
theorem dX7_failAttempt_81 : decode cX7_failAttempt 81 = .ok (.getfield 103, 3) := by decide +kernel
theorem dX7_failAttempt_84 : decode cX7_failAttempt 84 = .ok (.ifCond .le 8, 3) := by decide +kernel
theorem dX7_failAttempt_87 : decode cX7_failAttempt 87 = .ok (.aload_n 0, 1) := by decide +kernel
theorem dX7_failAttempt_88 : decode cX7_failAttempt 88 = .ok (.aload_n 1, 1) := by decide +kernel
theorem dX7_failAttempt_89 : decode cX7_failAttempt 89 = .ok (.invokevirtual 106, 3) := by decide +kernel
theorem dX7_failAttempt_92 : decode cX7_failAttempt 92 = .ok (.return_, 1) := by decide +kernel
theorem dX7_markGoodSlots_0 : decode cX7_markGoodSlots 0 = .ok (.aload_n 0, 1) := by decide +kernel
theorem dX7_markGoodSlots_1 : decode cX7_markGoodSlots 1 = .ok (.getfield 68, 3) := by decide +kernel
theorem dX7_markGoodSlots_4 : decode cX7_markGoodSlots 4 = .ok (.astore_n 1, 1) := by decide +kernel
theorem dX7_markGoodSlots_5 : decode cX7_markGoodSlots 5 = .ok (.aload_n 1, 1) := by decide +kernel
theorem dX7_markGoodSlots_6 : decode cX7_markGoodSlots 6 = .ok (.arraylength, 1) := by decide +kernel
theorem dX7_markGoodSlots_7 : decode cX7_markGoodSlots 7 = .ok (.istore_n 2, 1) := by decide +kernel
theorem dX7_markGoodSlots_8 : decode cX7_markGoodSlots 8 = .ok (.iconst 0, 1) := by decide +kernel
theorem dX7_markGoodSlots_9 : decode cX7_markGoodSlots 9 = .ok (.istore_n 3, 1) := by decide +kernel
theorem dX7_markGoodSlots_10 : decode cX7_markGoodSlots 10 = .ok (.iload_n 3, 1) := by decide +kernel
theorem dX7_markGoodSlots_11 : decode cX7_markGoodSlots 11 = .ok (.iload_n 2, 1) := by decide +kernel
theorem dX7_markGoodSlots_12 : decode cX7_markGoodSlots 12 = .ok (.if_icmp .ge 99, 3) := by decide +kernel
theorem dX7_markGoodSlots_15 : decode cX7_markGoodSlots 15 = .ok (.aload_n 1, 1) := by decide +kernel
theorem dX7_markGoodSlots_16 : decode cX7_markGoodSlots 16 = .ok (.iload_n 3, 1) := by decide +kernel
theorem dX7_markGoodSlots_17 : decode cX7_markGoodSlots 17 = .ok (.aaload, 1) := by decide +kernel
theorem dX7_markGoodSlots_18 : decode cX7_markGoodSlots 18 = .ok (.astore 4, 2) := by decide +kernel
theorem dX7_markGoodSlots_20 : decode cX7_markGoodSlots 20 = .ok (.aload_n 0, 1) := by decide +kernel
theorem dX7_markGoodSlots_21 : decode cX7_markGoodSlots 21 = .ok (.getfield 54, 3) := by decide +kernel
