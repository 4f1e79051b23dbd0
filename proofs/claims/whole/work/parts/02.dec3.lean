theorem dX8_piece_9 : decode cX8_piece 9 = .ok (.iconst 1, 1) := by decide +kernel
theorem dX8_piece_10 : decode cX8_piece 10 = .ok (.isub, 1) := by decide +kernel
theorem dX8_piece_11 : decode cX8_piece 11 = .ok (.i2l, 1) := by decide +kernel
theorem dX8_piece_12 : decode cX8_piece 12 = .ok (.invokestatic 58, 3) := by decide +kernel
theorem dX8_piece_15 : decode cX8_piece 15 = .ok (.ifCond .ne 6, 3) := by decide +kernel
theorem dX8_piece_18 : decode cX8_piece 18 = .ok (.bipush (-2), 2) := by decide +kernel
theorem dX8_piece_20 : decode cX8_piece 20 = .ok (.ireturn, 1) := by decide +kernel
theorem dX8_piece_21 : decode cX8_piece 21 = .ok (.iload_n 2, 1) := by decide +kernel
theorem dX8_piece_22 : decode cX8_piece 22 = .ok (.i2l, 1) := by decide +kernel
theorem dX8_piece_23 : decode cX8_piece 23 = .ok (.lconst 0, 1) := by decide +kernel
theorem dX8_piece_24 : decode cX8_piece 24 = .ok (.ldc2_w 255, 3) := by decide +kernel
theorem dX8_piece_27 : decode cX8_piece 27 = .ok (.invokestatic 58, 3) := by decide +kernel
theorem dX8_piece_30 : decode cX8_piece 30 = .ok (.ifCond .eq 12, 3) := by decide +kernel
theorem dX8_piece_33 : decode cX8_piece 33 = .ok (.aload_n 0, 1) := by decide +kernel
theorem dX8_piece_34 : decode cX8_piece 34 = .ok (.iload_n 1, 1) := by decide +kernel
theorem dX8_piece_35 : decode cX8_piece 35 = .ok (.iload_n 2, 1) := by decide +kernel
theorem dX8_piece_36 : decode cX8_piece 36 = .ok (.invokevirtual 71, 3) := by decide +kernel
theorem dX8_piece_39 : decode cX8_piece 39 = .ok (.goto 5, 3) := by decide +kernel
theorem dX8_piece_42 : decode cX8_piece 42 = .ok (.bipush (-3), 2) := by decide +kernel
theorem dX8_piece_44 : decode cX8_piece 44 = .ok (.ireturn, 1) := by decide +kernel
theorem dX8_gap_0 : decode cX8_gap 0 = .ok (.aload_n 0, 1) := by decide +kernel
theorem dX8_gap_1 : decode cX8_gap 1 = .ok (.iload_n 1, 1) := by decide +kernel
theorem dX8_gap_2 : decode cX8_gap 2 = .ok (.invokevirtual 200, 3) := by decide +kernel
theorem dX8_gap_5 : decode cX8_gap 5 = .ok (.ifCond .eq 16, 3) := by decide +kernel
theorem dX8_gap_8 : decode cX8_gap 8 = .ok (.iload_n 2, 1) := by decide +kernel
theorem dX8_gap_9 : decode cX8_gap 9 = .ok (.ifCond .lt 12, 3) := by decide +kernel
theorem dX8_gap_12 : decode cX8_gap 12 = .ok (.aload_n 0, 1) := by decide +kernel
theorem dX8_gap_13 : decode cX8_gap 13 = .ok (.iload_n 1, 1) := by decide +kernel
theorem dX8_gap_14 : decode cX8_gap 14 = .ok (.iload_n 2, 1) := by decide +kernel
theorem dX8_gap_15 : decode cX8_gap 15 = .ok (.invokevirtual 257, 3) := by decide +kernel
theorem dX8_gap_18 : decode cX8_gap 18 = .ok (.ifCond .ne 6, 3) := by decide +kernel
theorem dX8_gap_21 : decode cX8_gap 21 = .ok (.bipush (-2), 2) := by decide +kernel
theorem dX8_gap_23 : decode cX8_gap 23 = .ok (.ireturn, 1) := by decide +kernel
theorem dX8_gap_24 : decode cX8_gap 24 = .ok (.iload_n 3, 1) := by decide +kernel
theorem dX8_gap_25 : decode cX8_gap 25 = .ok (.ifCond .ne 10, 3) := by decide +kernel
theorem dX8_gap_28 : decode cX8_gap 28 = .ok (.aload_n 0, 1) := by decide +kernel
theorem dX8_gap_29 : decode cX8_gap 29 = .ok (.getfield 106, 3) := by decide +kernel
theorem dX8_gap_32 : decode cX8_gap 32 = .ok (.goto 17, 3) := by decide +kernel
theorem dX8_gap_35 : decode cX8_gap 35 = .ok (.iload_n 3, 1) := by decide +kernel
theorem dX8_gap_36 : decode cX8_gap 36 = .ok (.iconst 1, 1) := by decide +kernel
theorem dX8_gap_37 : decode cX8_gap 37 = .ok (.if_icmp .ne 10, 3) := by decide +kernel
theorem dX8_gap_40 : decode cX8_gap 40 = .ok (.aload_n 0, 1) := by decide +kernel
theorem dX8_gap_41 : decode cX8_gap 41 = .ok (.getfield 109, 3) := by decide +kernel
theorem dX8_gap_44 : decode cX8_gap 44 = .ok (.goto 5, 3) := by decide +kernel
theorem dX8_gap_47 : decode cX8_gap 47 = .ok (.bipush (-3), 2) := by decide +kernel
theorem dX8_gap_49 : decode cX8_gap 49 = .ok (.ireturn, 1) := by decide +kernel
theorem dX8_home_0 : decode cX8_home 0 = .ok (.iload_n 1, 1) := by decide +kernel
theorem dX8_home_1 : decode cX8_home 1 = .ok (.invokestatic 260, 3) := by decide +kernel
theorem dX8_home_4 : decode cX8_home 4 = .ok (.ifCond .eq 11, 3) := by decide +kernel
theorem dX8_home_7 : decode cX8_home 7 = .ok (.aload_n 0, 1) := by decide +kernel
theorem dX8_home_8 : decode cX8_home 8 = .ok (.iload_n 1, 1) := by decide +kernel
theorem dX8_home_9 : decode cX8_home 9 = .ok (.invokevirtual 263, 3) := by decide +kernel
theorem dX8_home_12 : decode cX8_home 12 = .ok (.goto 5, 3) := by decide +kernel
theorem dX8_home_15 : decode cX8_home 15 = .ok (.bipush (-3), 2) := by decide +kernel
theorem dX8_home_17 : decode cX8_home 17 = .ok (.ireturn, 1) := by decide +kernel
theorem dX8_where_0 : decode cX8_where 0 = .ok (.iload_n 1, 1) := by decide +kernel
theorem dX8_where_1 : decode cX8_where 1 = .ok (.invokestatic 260, 3) := by decide +kernel
theorem dX8_where_4 : decode cX8_where 4 = .ok (.ifCond .ne 6, 3) := by decide +kernel
theorem dX8_where_7 : decode cX8_where 7 = .ok (.bipush (-3), 2) := by decide +kernel
theorem dX8_where_9 : decode cX8_where 9 = .ok (.ireturn, 1) := by decide +kernel
theorem dX8_where_10 : decode cX8_where 10 = .ok (.iconst (-1), 1) := by decide +kernel
theorem dX8_where_11 : decode cX8_where 11 = .ok (.istore_n 2, 1) := by decide +kernel
theorem dX8_where_12 : decode cX8_where 12 = .ok (.iconst 0, 1) := by decide +kernel
theorem dX8_where_13 : decode cX8_where 13 = .ok (.istore_n 3, 1) := by decide +kernel
theorem dX8_where_14 : decode cX8_where 14 = .ok (.iload_n 3, 1) := by decide +kernel
theorem dX8_where_15 : decode cX8_where 15 = .ok (.aload_n 0, 1) := by decide +kernel
theorem dX8_where_16 : decode cX8_where 16 = .ok (.getfield 7, 3) := by decide +kernel
theorem dX8_where_19 : decode cX8_where 19 = .ok (.iconst 1, 1) := by decide +kernel
theorem dX8_where_20 : decode cX8_where 20 = .ok (.iaload, 1) := by decide +kernel
theorem dX8_where_21 : decode cX8_where 21 = .ok (.if_icmp .ge 42, 3) := by decide +kernel
theorem dX8_where_24 : decode cX8_where 24 = .ok (.iload_n 1, 1) := by decide +kernel
theorem dX8_where_25 : decode cX8_where 25 = .ok (.i2l, 1) := by decide +kernel
theorem dX8_where_26 : decode cX8_where 26 = .ok (.aload_n 0, 1) := by decide +kernel
theorem dX8_where_27 : decode cX8_where 27 = .ok (.iload_n 3, 1) := by decide +kernel
theorem dX8_where_28 : decode cX8_where 28 = .ok (.iconst 0, 1) := by decide +kernel
theorem dX8_where_29 : decode cX8_where 29 = .ok (.invokevirtual 71, 3) := by decide +kernel
theorem dX8_where_32 : decode cX8_where 32 = .ok (.i2l, 1) := by decide +kernel
theorem dX8_where_33 : decode cX8_where 33 = .ok (.aload_n 0, 1) := by decide +kernel
theorem dX8_where_34 : decode cX8_where 34 = .ok (.iload_n 3, 1) := by decide +kernel
theorem dX8_where_35 : decode cX8_where 35 = .ok (.iconst 1, 1) := by decide +kernel
theorem dX8_where_36 : decode cX8_where 36 = .ok (.invokevirtual 71, 3) := by decide +kernel
theorem dX8_where_39 : decode cX8_where 39 = .ok (.i2l, 1) := by decide +kernel
theorem dX8_where_40 : decode cX8_where 40 = .ok (.invokestatic 58, 3) := by decide +kernel
theorem dX8_where_43 : decode cX8_where 43 = .ok (.ifCond .eq 12, 3) := by decide +kernel
theorem dX8_where_46 : decode cX8_where 46 = .ok (.aload_n 0, 1) := by decide +kernel
theorem dX8_where_47 : decode cX8_where 47 = .ok (.iload_n 3, 1) := by decide +kernel
theorem dX8_where_48 : decode cX8_where 48 = .ok (.iconst 2, 1) := by decide +kernel
theorem dX8_where_49 : decode cX8_where 49 = .ok (.invokevirtual 71, 3) := by decide +kernel
theorem dX8_where_52 : decode cX8_where 52 = .ok (.goto 4, 3) := by decide +kernel
theorem dX8_where_55 : decode cX8_where 55 = .ok (.iload_n 2, 1) := by decide +kernel
theorem dX8_where_56 : decode cX8_where 56 = .ok (.istore_n 2, 1) := by decide +kernel
theorem dX8_where_57 : decode cX8_where 57 = .ok (.iinc 3 1, 3) := by decide +kernel
theorem dX8_where_60 : decode cX8_where 60 = .ok (.goto (-46), 3) := by decide +kernel
theorem dX8_where_63 : decode cX8_where 63 = .ok (.iload_n 2, 1) := by decide +kernel
theorem dX8_where_64 : decode cX8_where 64 = .ok (.ireturn, 1) := by decide +kernel
theorem dX8_isMoved_0 : decode cX8_isMoved 0 = .ok (.iload_n 2, 1) := by decide +kernel
theorem dX8_isMoved_1 : decode cX8_isMoved 1 = .ok (.i2l, 1) := by decide +kernel
theorem dX8_isMoved_2 : decode cX8_isMoved 2 = .ok (.aload_n 0, 1) := by decide +kernel
theorem dX8_isMoved_3 : decode cX8_isMoved 3 = .ok (.getfield 7, 3) := by decide +kernel
theorem dX8_isMoved_6 : decode cX8_isMoved 6 = .ok (.sipush 162, 3) := by decide +kernel
theorem dX8_isMoved_9 : decode cX8_isMoved 9 = .ok (.iconst 4, 1) := by decide +kernel
theorem dX8_isMoved_10 : decode cX8_isMoved 10 = .ok (.iload_n 1, 1) := by decide +kernel
theorem dX8_isMoved_11 : decode cX8_isMoved 11 = .ok (.imul, 1) := by decide +kernel
theorem dX8_isMoved_12 : decode cX8_isMoved 12 = .ok (.iadd, 1) := by decide +kernel
theorem dX8_isMoved_13 : decode cX8_isMoved 13 = .ok (.iconst 1, 1) := by decide +kernel
theorem dX8_isMoved_14 : decode cX8_isMoved 14 = .ok (.iadd, 1) := by decide +kernel
theorem dX8_isMoved_15 : decode cX8_isMoved 15 = .ok (.iaload, 1) := by decide +kernel
theorem dX8_isMoved_16 : decode cX8_isMoved 16 = .ok (.i2l, 1) := by decide +kernel
theorem dX8_isMoved_17 : decode cX8_isMoved 17 = .ok (.aload_n 0, 1) := by decide +kernel
theorem dX8_isMoved_18 : decode cX8_isMoved 18 = .ok (.getfield 7, 3) := by decide +kernel
theorem dX8_isMoved_21 : decode cX8_isMoved 21 = .ok (.sipush 162, 3) := by decide +kernel
theorem dX8_isMoved_24 : decode cX8_isMoved 24 = .ok (.iconst 4, 1) := by decide +kernel
theorem dX8_isMoved_25 : decode cX8_isMoved 25 = .ok (.iload_n 1, 1) := by decide +kernel
theorem dX8_isMoved_26 : decode cX8_isMoved 26 = .ok (.imul, 1) := by decide +kernel
theorem dX8_isMoved_27 : decode cX8_isMoved 27 = .ok (.iadd, 1) := by decide +kernel
theorem dX8_isMoved_28 : decode cX8_isMoved 28 = .ok (.iconst 2, 1) := by decide +kernel
theorem dX8_isMoved_29 : decode cX8_isMoved 29 = .ok (.iadd, 1) := by decide +kernel
theorem dX8_isMoved_30 : decode cX8_isMoved 30 = .ok (.iaload, 1) := by decide +kernel
theorem dX8_isMoved_31 : decode cX8_isMoved 31 = .ok (.i2l, 1) := by decide +kernel
theorem dX8_isMoved_32 : decode cX8_isMoved 32 = .ok (.invokestatic 58, 3) := by decide +kernel
theorem dX8_isMoved_35 : decode cX8_isMoved 35 = .ok (.ireturn, 1) := by decide +kernel
theorem dX8_was_0 : decode cX8_was 0 = .ok (.iload_n 1, 1) := by decide +kernel
theorem dX8_was_1 : decode cX8_was 1 = .ok (.invokestatic 260, 3) := by decide +kernel
theorem dX8_was_4 : decode cX8_was 4 = .ok (.ifCond .eq 7, 3) := by decide +kernel
theorem dX8_was_7 : decode cX8_was 7 = .ok (.iload_n 2, 1) := by decide +kernel
theorem dX8_was_8 : decode cX8_was 8 = .ok (.ifCond .ge 6, 3) := by decide +kernel
theorem dX8_was_11 : decode cX8_was 11 = .ok (.bipush (-3), 2) := by decide +kernel
theorem dX8_was_13 : decode cX8_was 13 = .ok (.ireturn, 1) := by decide +kernel
theorem dX8_was_14 : decode cX8_was 14 = .ok (.iconst (-1), 1) := by decide +kernel
theorem dX8_was_15 : decode cX8_was 15 = .ok (.istore_n 3, 1) := by decide +kernel
theorem dX8_was_16 : decode cX8_was 16 = .ok (.iconst 0, 1) := by decide +kernel
theorem dX8_was_17 : decode cX8_was 17 = .ok (.istore 4, 2) := by decide +kernel
theorem dX8_was_19 : decode cX8_was 19 = .ok (.iload 4, 2) := by decide +kernel
theorem dX8_was_21 : decode cX8_was 21 = .ok (.aload_n 0, 1) := by decide +kernel
theorem dX8_was_22 : decode cX8_was 22 = .ok (.getfield 7, 3) := by decide +kernel
theorem dX8_was_25 : decode cX8_was 25 = .ok (.iconst 2, 1) := by decide +kernel
theorem dX8_was_26 : decode cX8_was 26 = .ok (.iaload, 1) := by decide +kernel
theorem dX8_was_27 : decode cX8_was 27 = .ok (.if_icmp .ge 56, 3) := by decide +kernel
theorem dX8_was_30 : decode cX8_was 30 = .ok (.aload_n 0, 1) := by decide +kernel
theorem dX8_was_31 : decode cX8_was 31 = .ok (.getfield 7, 3) := by decide +kernel
theorem dX8_was_34 : decode cX8_was 34 = .ok (.sipush 162, 3) := by decide +kernel
theorem dX8_was_37 : decode cX8_was 37 = .ok (.iconst 4, 1) := by decide +kernel
theorem dX8_was_38 : decode cX8_was 38 = .ok (.iload 4, 2) := by decide +kernel
theorem dX8_was_40 : decode cX8_was 40 = .ok (.imul, 1) := by decide +kernel
theorem dX8_was_41 : decode cX8_was 41 = .ok (.iadd, 1) := by decide +kernel
theorem dX8_was_42 : decode cX8_was 42 = .ok (.iaload, 1) := by decide +kernel
theorem dX8_was_43 : decode cX8_was 43 = .ok (.iload_n 2, 1) := by decide +kernel
theorem dX8_was_44 : decode cX8_was 44 = .ok (.if_icmp .gt 31, 3) := by decide +kernel
theorem dX8_was_47 : decode cX8_was 47 = .ok (.aload_n 0, 1) := by decide +kernel
theorem dX8_was_48 : decode cX8_was 48 = .ok (.iload 4, 2) := by decide +kernel
theorem dX8_was_50 : decode cX8_was 50 = .ok (.iload_n 1, 1) := by decide +kernel
theorem dX8_was_51 : decode cX8_was 51 = .ok (.invokevirtual 266, 3) := by decide +kernel
theorem dX8_was_54 : decode cX8_was 54 = .ok (.ifCond .eq 21, 3) := by decide +kernel
theorem dX8_was_57 : decode cX8_was 57 = .ok (.aload_n 0, 1) := by decide +kernel
theorem dX8_was_58 : decode cX8_was 58 = .ok (.getfield 7, 3) := by decide +kernel
theorem dX8_was_61 : decode cX8_was 61 = .ok (.sipush 162, 3) := by decide +kernel
theorem dX8_was_64 : decode cX8_was 64 = .ok (.iconst 4, 1) := by decide +kernel
theorem dX8_was_65 : decode cX8_was 65 = .ok (.iload 4, 2) := by decide +kernel
theorem dX8_was_67 : decode cX8_was 67 = .ok (.imul, 1) := by decide +kernel
theorem dX8_was_68 : decode cX8_was 68 = .ok (.iadd, 1) := by decide +kernel
theorem dX8_was_69 : decode cX8_was 69 = .ok (.iconst 3, 1) := by decide +kernel
theorem dX8_was_70 : decode cX8_was 70 = .ok (.iadd, 1) := by decide +kernel
theorem dX8_was_71 : decode cX8_was 71 = .ok (.iaload, 1) := by decide +kernel
theorem dX8_was_72 : decode cX8_was 72 = .ok (.goto 4, 3) := by decide +kernel
theorem dX8_was_75 : decode cX8_was 75 = .ok (.iload_n 3, 1) := by decide +kernel
theorem dX8_was_76 : decode cX8_was 76 = .ok (.istore_n 3, 1) := by decide +kernel
theorem dX8_was_77 : decode cX8_was 77 = .ok (.iinc 4 1, 3) := by decide +kernel
theorem dX8_was_80 : decode cX8_was 80 = .ok (.goto (-61), 3) := by decide +kernel
theorem dX8_was_83 : decode cX8_was 83 = .ok (.iload_n 3, 1) := by decide +kernel
theorem dX8_was_84 : decode cX8_was 84 = .ok (.ireturn, 1) := by decide +kernel
theorem dX8_move_0 : decode cX8_move 0 = .ok (.iload_n 1, 1) := by decide +kernel
theorem dX8_move_1 : decode cX8_move 1 = .ok (.i2l, 1) := by decide +kernel
theorem dX8_move_2 : decode cX8_move 2 = .ok (.lconst 0, 1) := by decide +kernel
theorem dX8_move_3 : decode cX8_move 3 = .ok (.aload_n 0, 1) := by decide +kernel
theorem dX8_move_4 : decode cX8_move 4 = .ok (.getfield 7, 3) := by decide +kernel
theorem dX8_move_7 : decode cX8_move 7 = .ok (.iconst 2, 1) := by decide +kernel
theorem dX8_move_8 : decode cX8_move 8 = .ok (.iaload, 1) := by decide +kernel
theorem dX8_move_9 : decode cX8_move 9 = .ok (.iconst 1, 1) := by decide +kernel
theorem dX8_move_10 : decode cX8_move 10 = .ok (.isub, 1) := by decide +kernel
theorem dX8_move_11 : decode cX8_move 11 = .ok (.i2l, 1) := by decide +kernel
theorem dX8_move_12 : decode cX8_move 12 = .ok (.invokestatic 58, 3) := by decide +kernel
theorem dX8_move_15 : decode cX8_move 15 = .ok (.ifCond .ne 6, 3) := by decide +kernel
theorem dX8_move_18 : decode cX8_move 18 = .ok (.bipush (-2), 2) := by decide +kernel
theorem dX8_move_20 : decode cX8_move 20 = .ok (.ireturn, 1) := by decide +kernel
theorem dX8_move_21 : decode cX8_move 21 = .ok (.iload_n 2, 1) := by decide +kernel
theorem dX8_move_22 : decode cX8_move 22 = .ok (.i2l, 1) := by decide +kernel
theorem dX8_move_23 : decode cX8_move 23 = .ok (.lconst 0, 1) := by decide +kernel
theorem dX8_move_24 : decode cX8_move 24 = .ok (.ldc2_w 269, 3) := by decide +kernel
theorem dX8_move_27 : decode cX8_move 27 = .ok (.invokestatic 58, 3) := by decide +kernel
theorem dX8_move_30 : decode cX8_move 30 = .ok (.ifCond .eq 20, 3) := by decide +kernel
theorem dX8_move_33 : decode cX8_move 33 = .ok (.aload_n 0, 1) := by decide +kernel
theorem dX8_move_34 : decode cX8_move 34 = .ok (.getfield 7, 3) := by decide +kernel
theorem dX8_move_37 : decode cX8_move 37 = .ok (.sipush 162, 3) := by decide +kernel
theorem dX8_move_40 : decode cX8_move 40 = .ok (.iconst 4, 1) := by decide +kernel
theorem dX8_move_41 : decode cX8_move 41 = .ok (.iload_n 1, 1) := by decide +kernel
theorem dX8_move_42 : decode cX8_move 42 = .ok (.imul, 1) := by decide +kernel
theorem dX8_move_43 : decode cX8_move 43 = .ok (.iadd, 1) := by decide +kernel
theorem dX8_move_44 : decode cX8_move 44 = .ok (.iload_n 2, 1) := by decide +kernel
theorem dX8_move_45 : decode cX8_move 45 = .ok (.iadd, 1) := by decide +kernel
theorem dX8_move_46 : decode cX8_move 46 = .ok (.iaload, 1) := by decide +kernel
theorem dX8_move_47 : decode cX8_move 47 = .ok (.goto 5, 3) := by decide +kernel
theorem dX8_move_50 : decode cX8_move 50 = .ok (.bipush (-3), 2) := by decide +kernel
theorem dX8_move_52 : decode cX8_move 52 = .ok (.ireturn, 1) := by decide +kernel
theorem dX8_trail_0 : decode cX8_trail 0 = .ok (.iload_n 1, 1) := by decide +kernel
theorem dX8_trail_1 : decode cX8_trail 1 = .ok (.invokestatic 260, 3) := by decide +kernel
theorem dX8_trail_4 : decode cX8_trail 4 = .ok (.ifCond .eq 8, 3) := by decide +kernel
theorem dX8_trail_7 : decode cX8_trail 7 = .ok (.iload_n 2, 1) := by decide +kernel
theorem dX8_trail_8 : decode cX8_trail 8 = .ok (.iconst (-1), 1) := by decide +kernel
theorem dX8_trail_9 : decode cX8_trail 9 = .ok (.if_icmp .ge 6, 3) := by decide +kernel
theorem dX8_trail_12 : decode cX8_trail 12 = .ok (.bipush (-3), 2) := by decide +kernel
theorem dX8_trail_14 : decode cX8_trail 14 = .ok (.ireturn, 1) := by decide +kernel
theorem dX8_trail_15 : decode cX8_trail 15 = .ok (.iconst (-1), 1) := by decide +kernel
theorem dX8_trail_16 : decode cX8_trail 16 = .ok (.istore_n 3, 1) := by decide +kernel
theorem dX8_trail_17 : decode cX8_trail 17 = .ok (.iconst 0, 1) := by decide +kernel
theorem dX8_trail_18 : decode cX8_trail 18 = .ok (.istore 4, 2) := by decide +kernel
theorem dX8_trail_20 : decode cX8_trail 20 = .ok (.iconst 0, 1) := by decide +kernel
theorem dX8_trail_21 : decode cX8_trail 21 = .ok (.istore 5, 2) := by decide +kernel
theorem dX8_trail_23 : decode cX8_trail 23 = .ok (.iload 5, 2) := by decide +kernel
theorem dX8_trail_25 : decode cX8_trail 25 = .ok (.aload_n 0, 1) := by decide +kernel
theorem dX8_trail_26 : decode cX8_trail 26 = .ok (.getfield 7, 3) := by decide +kernel
theorem dX8_trail_29 : decode cX8_trail 29 = .ok (.iconst 2, 1) := by decide +kernel
theorem dX8_trail_30 : decode cX8_trail 30 = .ok (.iaload, 1) := by decide +kernel
theorem dX8_trail_31 : decode cX8_trail 31 = .ok (.if_icmp .ge 61, 3) := by decide +kernel
theorem dX8_trail_34 : decode cX8_trail 34 = .ok (.aload_n 0, 1) := by decide +kernel
theorem dX8_trail_35 : decode cX8_trail 35 = .ok (.iload 5, 2) := by decide +kernel
theorem dX8_trail_37 : decode cX8_trail 37 = .ok (.iload_n 1, 1) := by decide +kernel
theorem dX8_trail_38 : decode cX8_trail 38 = .ok (.invokevirtual 266, 3) := by decide +kernel
theorem dX8_trail_41 : decode cX8_trail 41 = .ok (.ifCond .eq 21, 3) := by decide +kernel
theorem dX8_trail_44 : decode cX8_trail 44 = .ok (.aload_n 0, 1) := by decide +kernel
theorem dX8_trail_45 : decode cX8_trail 45 = .ok (.getfield 7, 3) := by decide +kernel
theorem dX8_trail_48 : decode cX8_trail 48 = .ok (.sipush 162, 3) := by decide +kernel
theorem dX8_trail_51 : decode cX8_trail 51 = .ok (.iconst 4, 1) := by decide +kernel
theorem dX8_trail_52 : decode cX8_trail 52 = .ok (.iload 5, 2) := by decide +kernel
theorem dX8_trail_54 : decode cX8_trail 54 = .ok (.imul, 1) := by decide +kernel
theorem dX8_trail_55 : decode cX8_trail 55 = .ok (.iadd, 1) := by decide +kernel
theorem dX8_trail_56 : decode cX8_trail 56 = .ok (.iconst 3, 1) := by decide +kernel
theorem dX8_trail_57 : decode cX8_trail 57 = .ok (.iadd, 1) := by decide +kernel
theorem dX8_trail_58 : decode cX8_trail 58 = .ok (.iaload, 1) := by decide +kernel
theorem dX8_trail_59 : decode cX8_trail 59 = .ok (.goto 4, 3) := by decide +kernel
theorem dX8_trail_62 : decode cX8_trail 62 = .ok (.iload_n 3, 1) := by decide +kernel
theorem dX8_trail_63 : decode cX8_trail 63 = .ok (.istore 6, 2) := by decide +kernel
theorem dX8_trail_65 : decode cX8_trail 65 = .ok (.iload 6, 2) := by decide +kernel
theorem dX8_trail_67 : decode cX8_trail 67 = .ok (.iload_n 3, 1) := by decide +kernel
theorem dX8_trail_68 : decode cX8_trail 68 = .ok (.if_icmp .eq 15, 3) := by decide +kernel
theorem dX8_trail_71 : decode cX8_trail 71 = .ok (.iload 4, 2) := by decide +kernel
theorem dX8_trail_73 : decode cX8_trail 73 = .ok (.iload_n 2, 1) := by decide +kernel
theorem dX8_trail_74 : decode cX8_trail 74 = .ok (.if_icmp .ne 6, 3) := by decide +kernel
theorem dX8_trail_77 : decode cX8_trail 77 = .ok (.iload 5, 2) := by decide +kernel
theorem dX8_trail_79 : decode cX8_trail 79 = .ok (.ireturn, 1) := by decide +kernel
theorem dX8_trail_80 : decode cX8_trail 80 = .ok (.iinc 4 1, 3) := by decide +kernel
theorem dX8_trail_83 : decode cX8_trail 83 = .ok (.iload 6, 2) := by decide +kernel
theorem dX8_trail_85 : decode cX8_trail 85 = .ok (.istore_n 3, 1) := by decide +kernel
theorem dX8_trail_86 : decode cX8_trail 86 = .ok (.iinc 5 1, 3) := by decide +kernel
theorem dX8_trail_89 : decode cX8_trail 89 = .ok (.goto (-66), 3) := by decide +kernel
theorem dX8_trail_92 : decode cX8_trail 92 = .ok (.iload_n 2, 1) := by decide +kernel
theorem dX8_trail_93 : decode cX8_trail 93 = .ok (.iconst (-1), 1) := by decide +kernel
theorem dX8_trail_94 : decode cX8_trail 94 = .ok (.if_icmp .ne 8, 3) := by decide +kernel
theorem dX8_trail_97 : decode cX8_trail 97 = .ok (.iload 4, 2) := by decide +kernel
theorem dX8_trail_99 : decode cX8_trail 99 = .ok (.goto 4, 3) := by decide +kernel
theorem dX8_trail_102 : decode cX8_trail 102 = .ok (.iconst (-1), 1) := by decide +kernel
theorem dX8_trail_103 : decode cX8_trail 103 = .ok (.ireturn, 1) := by decide +kernel
theorem dX8_lists_0 : decode cX8_lists 0 = .ok (.aload_n 0, 1) := by decide +kernel
theorem dX8_lists_1 : decode cX8_lists 1 = .ok (.getfield 49, 3) := by decide +kernel
theorem dX8_lists_4 : decode cX8_lists 4 = .ok (.bipush 12, 2) := by decide +kernel
theorem dX8_lists_6 : decode cX8_lists 6 = .ok (.if_icmp .ne 4, 3) := by decide +kernel
theorem dX8_lists_9 : decode cX8_lists 9 = .ok (.return_, 1) := by decide +kernel
theorem dX8_lists_10 : decode cX8_lists 10 = .ok (.aload_n 0, 1) := by decide +kernel
theorem dX8_lists_11 : decode cX8_lists 11 = .ok (.getfield 13, 3) := by decide +kernel
theorem dX8_lists_14 : decode cX8_lists 14 = .ok (.iconst 3, 1) := by decide +kernel
theorem dX8_lists_15 : decode cX8_lists 15 = .ok (.aload_n 0, 1) := by decide +kernel
theorem dX8_lists_16 : decode cX8_lists 16 = .ok (.getfield 49, 3) := by decide +kernel
theorem dX8_lists_19 : decode cX8_lists 19 = .ok (.imul, 1) := by decide +kernel
theorem dX8_lists_20 : decode cX8_lists 20 = .ok (.iload_n 1, 1) := by decide +kernel
theorem dX8_lists_21 : decode cX8_lists 21 = .ok (.iastore, 1) := by decide +kernel
theorem dX8_lists_22 : decode cX8_lists 22 = .ok (.aload_n 0, 1) := by decide +kernel
theorem dX8_lists_23 : decode cX8_lists 23 = .ok (.getfield 13, 3) := by decide +kernel
theorem dX8_lists_26 : decode cX8_lists 26 = .ok (.iconst 3, 1) := by decide +kernel
theorem dX8_lists_27 : decode cX8_lists 27 = .ok (.aload_n 0, 1) := by decide +kernel
theorem dX8_lists_28 : decode cX8_lists 28 = .ok (.getfield 49, 3) := by decide +kernel
theorem dX8_lists_31 : decode cX8_lists 31 = .ok (.imul, 1) := by decide +kernel
theorem dX8_lists_32 : decode cX8_lists 32 = .ok (.iconst 1, 1) := by decide +kernel
theorem dX8_lists_33 : decode cX8_lists 33 = .ok (.iadd, 1) := by decide +kernel
theorem dX8_lists_34 : decode cX8_lists 34 = .ok (.iload_n 2, 1) := by decide +kernel
theorem dX8_lists_35 : decode cX8_lists 35 = .ok (.iastore, 1) := by decide +kernel
theorem dX8_lists_36 : decode cX8_lists 36 = .ok (.aload_n 0, 1) := by decide +kernel
theorem dX8_lists_37 : decode cX8_lists 37 = .ok (.getfield 13, 3) := by decide +kernel
theorem dX8_lists_40 : decode cX8_lists 40 = .ok (.iconst 3, 1) := by decide +kernel
theorem dX8_lists_41 : decode cX8_lists 41 = .ok (.aload_n 0, 1) := by decide +kernel
theorem dX8_lists_42 : decode cX8_lists 42 = .ok (.getfield 49, 3) := by decide +kernel
theorem dX8_lists_45 : decode cX8_lists 45 = .ok (.imul, 1) := by decide +kernel
theorem dX8_lists_46 : decode cX8_lists 46 = .ok (.iconst 2, 1) := by decide +kernel
theorem dX8_lists_47 : decode cX8_lists 47 = .ok (.iadd, 1) := by decide +kernel
theorem dX8_lists_48 : decode cX8_lists 48 = .ok (.iload_n 3, 1) := by decide +kernel
theorem dX8_lists_49 : decode cX8_lists 49 = .ok (.iastore, 1) := by decide +kernel
theorem dX8_lists_50 : decode cX8_lists 50 = .ok (.aload_n 0, 1) := by decide +kernel
theorem dX8_lists_51 : decode cX8_lists 51 = .ok (.dup, 1) := by decide +kernel
theorem dX8_lists_52 : decode cX8_lists 52 = .ok (.getfield 49, 3) := by decide +kernel
theorem dX8_lists_55 : decode cX8_lists 55 = .ok (.iconst 1, 1) := by decide +kernel
theorem dX8_lists_56 : decode cX8_lists 56 = .ok (.iadd, 1) := by decide +kernel
theorem dX8_lists_57 : decode cX8_lists 57 = .ok (.putfield 49, 3) := by decide +kernel
theorem dX8_lists_60 : decode cX8_lists 60 = .ok (.return_, 1) := by decide +kernel
theorem dX8_row_0 : decode cX8_row 0 = .ok (.iload_n 1, 1) := by decide +kernel
theorem dX8_row_1 : decode cX8_row 1 = .ok (.invokestatic 212, 3) := by decide +kernel
theorem dX8_row_4 : decode cX8_row 4 = .ok (.ifCond .ne 6, 3) := by decide +kernel
theorem dX8_row_7 : decode cX8_row 7 = .ok (.bipush (-2), 2) := by decide +kernel
theorem dX8_row_9 : decode cX8_row 9 = .ok (.ireturn, 1) := by decide +kernel
theorem dX8_row_10 : decode cX8_row 10 = .ok (.iload_n 2, 1) := by decide +kernel
theorem dX8_row_11 : decode cX8_row 11 = .ok (.iload_n 3, 1) := by decide +kernel
theorem dX8_row_12 : decode cX8_row 12 = .ok (.invokestatic 203, 3) := by decide +kernel
theorem dX8_row_15 : decode cX8_row 15 = .ok (.ifCond .ne 6, 3) := by decide +kernel
theorem dX8_row_18 : decode cX8_row 18 = .ok (.bipush (-3), 2) := by decide +kernel
theorem dX8_row_20 : decode cX8_row 20 = .ok (.ireturn, 1) := by decide +kernel
theorem dX8_row_21 : decode cX8_row 21 = .ok (.aload_n 0, 1) := by decide +kernel
theorem dX8_row_22 : decode cX8_row 22 = .ok (.getfield 49, 3) := by decide +kernel
theorem dX8_row_25 : decode cX8_row 25 = .ok (.bipush 12, 2) := by decide +kernel
theorem dX8_row_27 : decode cX8_row 27 = .ok (.if_icmp .ne 6, 3) := by decide +kernel
theorem dX8_row_30 : decode cX8_row 30 = .ok (.bipush (-5), 2) := by decide +kernel
theorem dX8_row_32 : decode cX8_row 32 = .ok (.ireturn, 1) := by decide +kernel
theorem dX8_row_33 : decode cX8_row 33 = .ok (.aload_n 0, 1) := by decide +kernel
theorem dX8_row_34 : decode cX8_row 34 = .ok (.iload_n 1, 1) := by decide +kernel
theorem dX8_row_35 : decode cX8_row 35 = .ok (.iload_n 2, 1) := by decide +kernel
theorem dX8_row_36 : decode cX8_row 36 = .ok (.iload_n 3, 1) := by decide +kernel
theorem dX8_row_37 : decode cX8_row 37 = .ok (.invokevirtual 173, 3) := by decide +kernel
theorem dX8_row_40 : decode cX8_row 40 = .ok (.aload_n 0, 1) := by decide +kernel
theorem dX8_row_41 : decode cX8_row 41 = .ok (.getfield 49, 3) := by decide +kernel
theorem dX8_row_44 : decode cX8_row 44 = .ok (.iconst 1, 1) := by decide +kernel
theorem dX8_row_45 : decode cX8_row 45 = .ok (.isub, 1) := by decide +kernel
theorem dX8_row_46 : decode cX8_row 46 = .ok (.ireturn, 1) := by decide +kernel
theorem dX8_clear_0 : decode cX8_clear 0 = .ok (.aload_n 0, 1) := by decide +kernel
theorem dX8_clear_1 : decode cX8_clear 1 = .ok (.getfield 49, 3) := by decide +kernel
theorem dX8_clear_4 : decode cX8_clear 4 = .ok (.istore_n 1, 1) := by decide +kernel
theorem dX8_clear_5 : decode cX8_clear 5 = .ok (.aload_n 0, 1) := by decide +kernel
theorem dX8_clear_6 : decode cX8_clear 6 = .ok (.iconst 0, 1) := by decide +kernel
theorem dX8_clear_7 : decode cX8_clear 7 = .ok (.putfield 49, 3) := by decide +kernel
theorem dX8_clear_10 : decode cX8_clear 10 = .ok (.iload_n 1, 1) := by decide +kernel
theorem dX8_clear_11 : decode cX8_clear 11 = .ok (.ireturn, 1) := by decide +kernel
theorem dX8_clash_0 : decode cX8_clash 0 = .ok (.aload_n 0, 1) := by decide +kernel
theorem dX8_clash_1 : decode cX8_clash 1 = .ok (.getfield 13, 3) := by decide +kernel
theorem dX8_clash_4 : decode cX8_clash 4 = .ok (.iconst 3, 1) := by decide +kernel
theorem dX8_clash_5 : decode cX8_clash 5 = .ok (.iload_n 1, 1) := by decide +kernel
theorem dX8_clash_6 : decode cX8_clash 6 = .ok (.imul, 1) := by decide +kernel
theorem dX8_clash_7 : decode cX8_clash 7 = .ok (.iaload, 1) := by decide +kernel
theorem dX8_clash_8 : decode cX8_clash 8 = .ok (.aload_n 0, 1) := by decide +kernel
theorem dX8_clash_9 : decode cX8_clash 9 = .ok (.getfield 13, 3) := by decide +kernel
theorem dX8_clash_12 : decode cX8_clash 12 = .ok (.iconst 3, 1) := by decide +kernel
theorem dX8_clash_13 : decode cX8_clash 13 = .ok (.iload_n 2, 1) := by decide +kernel
theorem dX8_clash_14 : decode cX8_clash 14 = .ok (.imul, 1) := by decide +kernel
theorem dX8_clash_15 : decode cX8_clash 15 = .ok (.iaload, 1) := by decide +kernel
theorem dX8_clash_16 : decode cX8_clash 16 = .ok (.if_icmp .eq 53, 3) := by decide +kernel
theorem dX8_clash_19 : decode cX8_clash 19 = .ok (.aload_n 0, 1) := by decide +kernel
theorem dX8_clash_20 : decode cX8_clash 20 = .ok (.getfield 13, 3) := by decide +kernel
theorem dX8_clash_23 : decode cX8_clash 23 = .ok (.iconst 3, 1) := by decide +kernel
theorem dX8_clash_24 : decode cX8_clash 24 = .ok (.iload_n 1, 1) := by decide +kernel
theorem dX8_clash_25 : decode cX8_clash 25 = .ok (.imul, 1) := by decide +kernel
theorem dX8_clash_26 : decode cX8_clash 26 = .ok (.iconst 1, 1) := by decide +kernel
theorem dX8_clash_27 : decode cX8_clash 27 = .ok (.iadd, 1) := by decide +kernel
theorem dX8_clash_28 : decode cX8_clash 28 = .ok (.iaload, 1) := by decide +kernel
theorem dX8_clash_29 : decode cX8_clash 29 = .ok (.aload_n 0, 1) := by decide +kernel
theorem dX8_clash_30 : decode cX8_clash 30 = .ok (.getfield 13, 3) := by decide +kernel
theorem dX8_clash_33 : decode cX8_clash 33 = .ok (.iconst 3, 1) := by decide +kernel
theorem dX8_clash_34 : decode cX8_clash 34 = .ok (.iload_n 1, 1) := by decide +kernel
theorem dX8_clash_35 : decode cX8_clash 35 = .ok (.imul, 1) := by decide +kernel
theorem dX8_clash_36 : decode cX8_clash 36 = .ok (.iconst 2, 1) := by decide +kernel
theorem dX8_clash_37 : decode cX8_clash 37 = .ok (.iadd, 1) := by decide +kernel
theorem dX8_clash_38 : decode cX8_clash 38 = .ok (.iaload, 1) := by decide +kernel
theorem dX8_clash_39 : decode cX8_clash 39 = .ok (.aload_n 0, 1) := by decide +kernel
theorem dX8_clash_40 : decode cX8_clash 40 = .ok (.getfield 13, 3) := by decide +kernel
theorem dX8_clash_43 : decode cX8_clash 43 = .ok (.iconst 3, 1) := by decide +kernel
theorem dX8_clash_44 : decode cX8_clash 44 = .ok (.iload_n 2, 1) := by decide +kernel
theorem dX8_clash_45 : decode cX8_clash 45 = .ok (.imul, 1) := by decide +kernel
theorem dX8_clash_46 : decode cX8_clash 46 = .ok (.iconst 1, 1) := by decide +kernel
theorem dX8_clash_47 : decode cX8_clash 47 = .ok (.iadd, 1) := by decide +kernel
theorem dX8_clash_48 : decode cX8_clash 48 = .ok (.iaload, 1) := by decide +kernel
theorem dX8_clash_49 : decode cX8_clash 49 = .ok (.aload_n 0, 1) := by decide +kernel
theorem dX8_clash_50 : decode cX8_clash 50 = .ok (.getfield 13, 3) := by decide +kernel
theorem dX8_clash_53 : decode cX8_clash 53 = .ok (.iconst 3, 1) := by decide +kernel
theorem dX8_clash_54 : decode cX8_clash 54 = .ok (.iload_n 2, 1) := by decide +kernel
theorem dX8_clash_55 : decode cX8_clash 55 = .ok (.imul, 1) := by decide +kernel
theorem dX8_clash_56 : decode cX8_clash 56 = .ok (.iconst 2, 1) := by decide +kernel
theorem dX8_clash_57 : decode cX8_clash 57 = .ok (.iadd, 1) := by decide +kernel
theorem dX8_clash_58 : decode cX8_clash 58 = .ok (.iaload, 1) := by decide +kernel
theorem dX8_clash_59 : decode cX8_clash 59 = .ok (.invokestatic 74, 3) := by decide +kernel
theorem dX8_clash_62 : decode cX8_clash 62 = .ok (.ifCond .le 7, 3) := by decide +kernel
theorem dX8_clash_65 : decode cX8_clash 65 = .ok (.iconst 1, 1) := by decide +kernel
theorem dX8_clash_66 : decode cX8_clash 66 = .ok (.goto 4, 3) := by decide +kernel
theorem dX8_clash_69 : decode cX8_clash 69 = .ok (.iconst 0, 1) := by decide +kernel
theorem dX8_clash_70 : decode cX8_clash 70 = .ok (.ireturn, 1) := by decide +kernel
theorem dX8_clashOf_0 : decode cX8_clashOf 0 = .ok (.iconst 0, 1) := by decide +kernel
theorem dX8_clashOf_1 : decode cX8_clashOf 1 = .ok (.istore_n 2, 1) := by decide +kernel
theorem dX8_clashOf_2 : decode cX8_clashOf 2 = .ok (.iload_n 2, 1) := by decide +kernel
theorem dX8_clashOf_3 : decode cX8_clashOf 3 = .ok (.aload_n 0, 1) := by decide +kernel
theorem dX8_clashOf_4 : decode cX8_clashOf 4 = .ok (.getfield 49, 3) := by decide +kernel
theorem dX8_clashOf_7 : decode cX8_clashOf 7 = .ok (.if_icmp .ge 25, 3) := by decide +kernel
theorem dX8_clashOf_10 : decode cX8_clashOf 10 = .ok (.iload_n 2, 1) := by decide +kernel
theorem dX8_clashOf_11 : decode cX8_clashOf 11 = .ok (.iload_n 1, 1) := by decide +kernel
theorem dX8_clashOf_12 : decode cX8_clashOf 12 = .ok (.if_icmp .eq 14, 3) := by decide +kernel
theorem dX8_clashOf_15 : decode cX8_clashOf 15 = .ok (.aload_n 0, 1) := by decide +kernel
theorem dX8_clashOf_16 : decode cX8_clashOf 16 = .ok (.iload_n 2, 1) := by decide +kernel
theorem dX8_clashOf_17 : decode cX8_clashOf 17 = .ok (.iload_n 1, 1) := by decide +kernel
theorem dX8_clashOf_18 : decode cX8_clashOf 18 = .ok (.invokevirtual 271, 3) := by decide +kernel
theorem dX8_clashOf_21 : decode cX8_clashOf 21 = .ok (.ifCond .eq 5, 3) := by decide +kernel
theorem dX8_clashOf_24 : decode cX8_clashOf 24 = .ok (.iload_n 2, 1) := by decide +kernel
theorem dX8_clashOf_25 : decode cX8_clashOf 25 = .ok (.ireturn, 1) := by decide +kernel
theorem dX8_clashOf_26 : decode cX8_clashOf 26 = .ok (.iinc 2 1, 3) := by decide +kernel
theorem dX8_clashOf_29 : decode cX8_clashOf 29 = .ok (.goto (-27), 3) := by decide +kernel
theorem dX8_clashOf_32 : decode cX8_clashOf 32 = .ok (.iconst (-1), 1) := by decide +kernel
theorem dX8_clashOf_33 : decode cX8_clashOf 33 = .ok (.ireturn, 1) := by decide +kernel
theorem dX8_listed_0 : decode cX8_listed 0 = .ok (.iload_n 1, 1) := by decide +kernel
theorem dX8_listed_1 : decode cX8_listed 1 = .ok (.i2l, 1) := by decide +kernel
theorem dX8_listed_2 : decode cX8_listed 2 = .ok (.lconst 0, 1) := by decide +kernel
theorem dX8_listed_3 : decode cX8_listed 3 = .ok (.aload_n 0, 1) := by decide +kernel
theorem dX8_listed_4 : decode cX8_listed 4 = .ok (.getfield 49, 3) := by decide +kernel
theorem dX8_listed_7 : decode cX8_listed 7 = .ok (.iconst 1, 1) := by decide +kernel
theorem dX8_listed_8 : decode cX8_listed 8 = .ok (.isub, 1) := by decide +kernel
theorem dX8_listed_9 : decode cX8_listed 9 = .ok (.i2l, 1) := by decide +kernel
theorem dX8_listed_10 : decode cX8_listed 10 = .ok (.invokestatic 58, 3) := by decide +kernel
theorem dX8_listed_13 : decode cX8_listed 13 = .ok (.ifCond .ne 6, 3) := by decide +kernel
theorem dX8_listed_16 : decode cX8_listed 16 = .ok (.bipush (-2), 2) := by decide +kernel
theorem dX8_listed_18 : decode cX8_listed 18 = .ok (.ireturn, 1) := by decide +kernel
theorem dX8_listed_19 : decode cX8_listed 19 = .ok (.aload_n 0, 1) := by decide +kernel
theorem dX8_listed_20 : decode cX8_listed 20 = .ok (.getfield 13, 3) := by decide +kernel
theorem dX8_listed_23 : decode cX8_listed 23 = .ok (.iconst 3, 1) := by decide +kernel
theorem dX8_listed_24 : decode cX8_listed 24 = .ok (.iload_n 1, 1) := by decide +kernel
theorem dX8_listed_25 : decode cX8_listed 25 = .ok (.imul, 1) := by decide +kernel
theorem dX8_listed_26 : decode cX8_listed 26 = .ok (.iconst 1, 1) := by decide +kernel
theorem dX8_listed_27 : decode cX8_listed 27 = .ok (.iadd, 1) := by decide +kernel
theorem dX8_listed_28 : decode cX8_listed 28 = .ok (.iaload, 1) := by decide +kernel
theorem dX8_listed_29 : decode cX8_listed 29 = .ok (.istore_n 3, 1) := by decide +kernel
theorem dX8_listed_30 : decode cX8_listed 30 = .ok (.aload_n 0, 1) := by decide +kernel
theorem dX8_listed_31 : decode cX8_listed 31 = .ok (.getfield 13, 3) := by decide +kernel
theorem dX8_listed_34 : decode cX8_listed 34 = .ok (.iconst 3, 1) := by decide +kernel
theorem dX8_listed_35 : decode cX8_listed 35 = .ok (.iload_n 1, 1) := by decide +kernel
theorem dX8_listed_36 : decode cX8_listed 36 = .ok (.imul, 1) := by decide +kernel
theorem dX8_listed_37 : decode cX8_listed 37 = .ok (.iconst 2, 1) := by decide +kernel
theorem dX8_listed_38 : decode cX8_listed 38 = .ok (.iadd, 1) := by decide +kernel
theorem dX8_listed_39 : decode cX8_listed 39 = .ok (.iaload, 1) := by decide +kernel
theorem dX8_listed_40 : decode cX8_listed 40 = .ok (.istore 4, 2) := by decide +kernel
theorem dX8_listed_42 : decode cX8_listed 42 = .ok (.aload_n 0, 1) := by decide +kernel
theorem dX8_listed_43 : decode cX8_listed 43 = .ok (.aload_n 0, 1) := by decide +kernel
theorem dX8_listed_44 : decode cX8_listed 44 = .ok (.getfield 13, 3) := by decide +kernel
theorem dX8_listed_47 : decode cX8_listed 47 = .ok (.iconst 3, 1) := by decide +kernel
theorem dX8_listed_48 : decode cX8_listed 48 = .ok (.iload_n 1, 1) := by decide +kernel
theorem dX8_listed_49 : decode cX8_listed 49 = .ok (.imul, 1) := by decide +kernel
theorem dX8_listed_50 : decode cX8_listed 50 = .ok (.iaload, 1) := by decide +kernel
theorem dX8_listed_51 : decode cX8_listed 51 = .ok (.iload_n 3, 1) := by decide +kernel
theorem dX8_listed_52 : decode cX8_listed 52 = .ok (.iload 4, 2) := by decide +kernel
theorem dX8_listed_54 : decode cX8_listed 54 = .ok (.invokevirtual 79, 3) := by decide +kernel
theorem dX8_listed_57 : decode cX8_listed 57 = .ok (.istore 5, 2) := by decide +kernel
theorem dX8_listed_59 : decode cX8_listed 59 = .ok (.iload_n 2, 1) := by decide +kernel
theorem dX8_listed_60 : decode cX8_listed 60 = .ok (.tableswitch 72 0 5 #[40, 40, 40, 51, 54, 66], 40) := by decide +kernel
theorem dX8_listed_100 : decode cX8_listed 100 = .ok (.aload_n 0, 1) := by decide +kernel
theorem dX8_listed_101 : decode cX8_listed 101 = .ok (.getfield 13, 3) := by decide +kernel
theorem dX8_listed_104 : decode cX8_listed 104 = .ok (.iconst 3, 1) := by decide +kernel
theorem dX8_listed_105 : decode cX8_listed 105 = .ok (.iload_n 1, 1) := by decide +kernel
theorem dX8_listed_106 : decode cX8_listed 106 = .ok (.imul, 1) := by decide +kernel
theorem dX8_listed_107 : decode cX8_listed 107 = .ok (.iload_n 2, 1) := by decide +kernel
theorem dX8_listed_108 : decode cX8_listed 108 = .ok (.iadd, 1) := by decide +kernel
theorem dX8_listed_109 : decode cX8_listed 109 = .ok (.iaload, 1) := by decide +kernel
theorem dX8_listed_110 : decode cX8_listed 110 = .ok (.ireturn, 1) := by decide +kernel
theorem dX8_listed_111 : decode cX8_listed 111 = .ok (.iload 5, 2) := by decide +kernel
theorem dX8_listed_113 : decode cX8_listed 113 = .ok (.ireturn, 1) := by decide +kernel
theorem dX8_listed_114 : decode cX8_listed 114 = .ok (.aload_n 0, 1) := by decide +kernel
theorem dX8_listed_115 : decode cX8_listed 115 = .ok (.iconst (-1), 1) := by decide +kernel
theorem dX8_listed_116 : decode cX8_listed 116 = .ok (.iload_n 3, 1) := by decide +kernel
theorem dX8_listed_117 : decode cX8_listed 117 = .ok (.iload 4, 2) := by decide +kernel
theorem dX8_listed_119 : decode cX8_listed 119 = .ok (.invokevirtual 79, 3) := by decide +kernel
theorem dX8_listed_122 : decode cX8_listed 122 = .ok (.iload 5, 2) := by decide +kernel
theorem dX8_listed_124 : decode cX8_listed 124 = .ok (.isub, 1) := by decide +kernel
theorem dX8_listed_125 : decode cX8_listed 125 = .ok (.ireturn, 1) := by decide +kernel
theorem dX8_listed_126 : decode cX8_listed 126 = .ok (.aload_n 0, 1) := by decide +kernel
theorem dX8_listed_127 : decode cX8_listed 127 = .ok (.iload_n 1, 1) := by decide +kernel
theorem dX8_listed_128 : decode cX8_listed 128 = .ok (.invokevirtual 274, 3) := by decide +kernel
theorem dX8_listed_131 : decode cX8_listed 131 = .ok (.ireturn, 1) := by decide +kernel
theorem dX8_listed_132 : decode cX8_listed 132 = .ok (.bipush (-3), 2) := by decide +kernel
theorem dX8_listed_134 : decode cX8_listed 134 = .ok (.ireturn, 1) := by decide +kernel
theorem dX8_bare_0 : decode cX8_bare 0 = .ok (.iconst 0, 1) := by decide +kernel
theorem dX8_bare_1 : decode cX8_bare 1 = .ok (.istore 4, 2) := by decide +kernel
theorem dX8_bare_3 : decode cX8_bare 3 = .ok (.iload_n 2, 1) := by decide +kernel
theorem dX8_bare_4 : decode cX8_bare 4 = .ok (.istore 5, 2) := by decide +kernel
theorem dX8_bare_6 : decode cX8_bare 6 = .ok (.iload 5, 2) := by decide +kernel
theorem dX8_bare_8 : decode cX8_bare 8 = .ok (.iload_n 3, 1) := by decide +kernel
theorem dX8_bare_9 : decode cX8_bare 9 = .ok (.if_icmp .gt 181, 3) := by decide +kernel
theorem dX8_bare_12 : decode cX8_bare 12 = .ok (.iload_n 3, 1) := by decide +kernel
theorem dX8_bare_13 : decode cX8_bare 13 = .ok (.istore 6, 2) := by decide +kernel
theorem dX8_bare_15 : decode cX8_bare 15 = .ok (.iconst (-1), 1) := by decide +kernel
theorem dX8_bare_16 : decode cX8_bare 16 = .ok (.istore 7, 2) := by decide +kernel
theorem dX8_bare_18 : decode cX8_bare 18 = .ok (.iconst 0, 1) := by decide +kernel
theorem dX8_bare_19 : decode cX8_bare 19 = .ok (.istore 8, 2) := by decide +kernel
theorem dX8_bare_21 : decode cX8_bare 21 = .ok (.iload 8, 2) := by decide +kernel
theorem dX8_bare_23 : decode cX8_bare 23 = .ok (.aload_n 0, 1) := by decide +kernel
theorem dX8_bare_24 : decode cX8_bare 24 = .ok (.getfield 49, 3) := by decide +kernel
theorem dX8_bare_27 : decode cX8_bare 27 = .ok (.if_icmp .ge 119, 3) := by decide +kernel
theorem dX8_bare_30 : decode cX8_bare 30 = .ok (.aload_n 0, 1) := by decide +kernel
theorem dX8_bare_31 : decode cX8_bare 31 = .ok (.getfield 13, 3) := by decide +kernel
theorem dX8_bare_34 : decode cX8_bare 34 = .ok (.iconst 3, 1) := by decide +kernel
theorem dX8_bare_35 : decode cX8_bare 35 = .ok (.iload 8, 2) := by decide +kernel
theorem dX8_bare_37 : decode cX8_bare 37 = .ok (.imul, 1) := by decide +kernel
theorem dX8_bare_38 : decode cX8_bare 38 = .ok (.iaload, 1) := by decide +kernel
theorem dX8_bare_39 : decode cX8_bare 39 = .ok (.iload_n 1, 1) := by decide +kernel
theorem dX8_bare_40 : decode cX8_bare 40 = .ok (.if_icmp .ne 100, 3) := by decide +kernel
theorem dX8_bare_43 : decode cX8_bare 43 = .ok (.iload 5, 2) := by decide +kernel
theorem dX8_bare_45 : decode cX8_bare 45 = .ok (.i2l, 1) := by decide +kernel
theorem dX8_bare_46 : decode cX8_bare 46 = .ok (.aload_n 0, 1) := by decide +kernel
theorem dX8_bare_47 : decode cX8_bare 47 = .ok (.getfield 13, 3) := by decide +kernel
theorem dX8_bare_50 : decode cX8_bare 50 = .ok (.iconst 3, 1) := by decide +kernel
theorem dX8_bare_51 : decode cX8_bare 51 = .ok (.iload 8, 2) := by decide +kernel
theorem dX8_bare_53 : decode cX8_bare 53 = .ok (.imul, 1) := by decide +kernel
theorem dX8_bare_54 : decode cX8_bare 54 = .ok (.iconst 1, 1) := by decide +kernel
theorem dX8_bare_55 : decode cX8_bare 55 = .ok (.iadd, 1) := by decide +kernel
theorem dX8_bare_56 : decode cX8_bare 56 = .ok (.iaload, 1) := by decide +kernel
theorem dX8_bare_57 : decode cX8_bare 57 = .ok (.i2l, 1) := by decide +kernel
theorem dX8_bare_58 : decode cX8_bare 58 = .ok (.aload_n 0, 1) := by decide +kernel
theorem dX8_bare_59 : decode cX8_bare 59 = .ok (.getfield 13, 3) := by decide +kernel
theorem dX8_bare_62 : decode cX8_bare 62 = .ok (.iconst 3, 1) := by decide +kernel
theorem dX8_bare_63 : decode cX8_bare 63 = .ok (.iload 8, 2) := by decide +kernel
theorem dX8_bare_65 : decode cX8_bare 65 = .ok (.imul, 1) := by decide +kernel
theorem dX8_bare_66 : decode cX8_bare 66 = .ok (.iconst 2, 1) := by decide +kernel
theorem dX8_bare_67 : decode cX8_bare 67 = .ok (.iadd, 1) := by decide +kernel
theorem dX8_bare_68 : decode cX8_bare 68 = .ok (.iaload, 1) := by decide +kernel
theorem dX8_bare_69 : decode cX8_bare 69 = .ok (.i2l, 1) := by decide +kernel
theorem dX8_bare_70 : decode cX8_bare 70 = .ok (.invokestatic 58, 3) := by decide +kernel
theorem dX8_bare_73 : decode cX8_bare 73 = .ok (.ifCond .eq 22, 3) := by decide +kernel
theorem dX8_bare_76 : decode cX8_bare 76 = .ok (.iload 7, 2) := by decide +kernel
theorem dX8_bare_78 : decode cX8_bare 78 = .ok (.aload_n 0, 1) := by decide +kernel
theorem dX8_bare_79 : decode cX8_bare 79 = .ok (.getfield 13, 3) := by decide +kernel
theorem dX8_bare_82 : decode cX8_bare 82 = .ok (.iconst 3, 1) := by decide +kernel
theorem dX8_bare_83 : decode cX8_bare 83 = .ok (.iload 8, 2) := by decide +kernel
theorem dX8_bare_85 : decode cX8_bare 85 = .ok (.imul, 1) := by decide +kernel
theorem dX8_bare_86 : decode cX8_bare 86 = .ok (.iconst 2, 1) := by decide +kernel
theorem dX8_bare_87 : decode cX8_bare 87 = .ok (.iadd, 1) := by decide +kernel
theorem dX8_bare_88 : decode cX8_bare 88 = .ok (.iaload, 1) := by decide +kernel
theorem dX8_bare_89 : decode cX8_bare 89 = .ok (.invokestatic 64, 3) := by decide +kernel
theorem dX8_bare_92 : decode cX8_bare 92 = .ok (.goto 5, 3) := by decide +kernel
theorem dX8_bare_95 : decode cX8_bare 95 = .ok (.iload 7, 2) := by decide +kernel
theorem dX8_bare_97 : decode cX8_bare 97 = .ok (.istore 7, 2) := by decide +kernel
theorem dX8_bare_99 : decode cX8_bare 99 = .ok (.aload_n 0, 1) := by decide +kernel
theorem dX8_bare_100 : decode cX8_bare 100 = .ok (.getfield 13, 3) := by decide +kernel
theorem dX8_bare_103 : decode cX8_bare 103 = .ok (.iconst 3, 1) := by decide +kernel
theorem dX8_bare_104 : decode cX8_bare 104 = .ok (.iload 8, 2) := by decide +kernel
theorem dX8_bare_106 : decode cX8_bare 106 = .ok (.imul, 1) := by decide +kernel
theorem dX8_bare_107 : decode cX8_bare 107 = .ok (.iconst 1, 1) := by decide +kernel
theorem dX8_bare_108 : decode cX8_bare 108 = .ok (.iadd, 1) := by decide +kernel
theorem dX8_bare_109 : decode cX8_bare 109 = .ok (.iaload, 1) := by decide +kernel
theorem dX8_bare_110 : decode cX8_bare 110 = .ok (.iload 5, 2) := by decide +kernel
theorem dX8_bare_112 : decode cX8_bare 112 = .ok (.if_icmp .le 24, 3) := by decide +kernel
theorem dX8_bare_115 : decode cX8_bare 115 = .ok (.iload 6, 2) := by decide +kernel
theorem dX8_bare_117 : decode cX8_bare 117 = .ok (.aload_n 0, 1) := by decide +kernel
theorem dX8_bare_118 : decode cX8_bare 118 = .ok (.getfield 13, 3) := by decide +kernel
theorem dX8_bare_121 : decode cX8_bare 121 = .ok (.iconst 3, 1) := by decide +kernel
theorem dX8_bare_122 : decode cX8_bare 122 = .ok (.iload 8, 2) := by decide +kernel
theorem dX8_bare_124 : decode cX8_bare 124 = .ok (.imul, 1) := by decide +kernel
theorem dX8_bare_125 : decode cX8_bare 125 = .ok (.iconst 1, 1) := by decide +kernel
theorem dX8_bare_126 : decode cX8_bare 126 = .ok (.iadd, 1) := by decide +kernel
theorem dX8_bare_127 : decode cX8_bare 127 = .ok (.iaload, 1) := by decide +kernel
theorem dX8_bare_128 : decode cX8_bare 128 = .ok (.iconst 1, 1) := by decide +kernel
theorem dX8_bare_129 : decode cX8_bare 129 = .ok (.isub, 1) := by decide +kernel
theorem dX8_bare_130 : decode cX8_bare 130 = .ok (.invokestatic 68, 3) := by decide +kernel
theorem dX8_bare_133 : decode cX8_bare 133 = .ok (.goto 5, 3) := by decide +kernel
theorem dX8_bare_136 : decode cX8_bare 136 = .ok (.iload 6, 2) := by decide +kernel
theorem dX8_bare_138 : decode cX8_bare 138 = .ok (.istore 6, 2) := by decide +kernel
theorem dX8_bare_140 : decode cX8_bare 140 = .ok (.iinc 8 1, 3) := by decide +kernel
theorem dX8_bare_143 : decode cX8_bare 143 = .ok (.goto (-122), 3) := by decide +kernel
theorem dX8_bare_146 : decode cX8_bare 146 = .ok (.iload 4, 2) := by decide +kernel
theorem dX8_bare_148 : decode cX8_bare 148 = .ok (.iload 7, 2) := by decide +kernel
theorem dX8_bare_150 : decode cX8_bare 150 = .ok (.iconst (-1), 1) := by decide +kernel
theorem dX8_bare_151 : decode cX8_bare 151 = .ok (.if_icmp .ne 13, 3) := by decide +kernel
theorem dX8_bare_154 : decode cX8_bare 154 = .ok (.iload 6, 2) := by decide +kernel
theorem dX8_bare_156 : decode cX8_bare 156 = .ok (.iload 5, 2) := by decide +kernel
theorem dX8_bare_158 : decode cX8_bare 158 = .ok (.isub, 1) := by decide +kernel
theorem dX8_bare_159 : decode cX8_bare 159 = .ok (.iconst 1, 1) := by decide +kernel
theorem dX8_bare_160 : decode cX8_bare 160 = .ok (.iadd, 1) := by decide +kernel
theorem dX8_bare_161 : decode cX8_bare 161 = .ok (.goto 4, 3) := by decide +kernel
theorem dX8_bare_164 : decode cX8_bare 164 = .ok (.iconst 0, 1) := by decide +kernel
theorem dX8_bare_165 : decode cX8_bare 165 = .ok (.iadd, 1) := by decide +kernel
theorem dX8_bare_166 : decode cX8_bare 166 = .ok (.istore 4, 2) := by decide +kernel
theorem dX8_bare_168 : decode cX8_bare 168 = .ok (.iload 7, 2) := by decide +kernel
theorem dX8_bare_170 : decode cX8_bare 170 = .ok (.iconst (-1), 1) := by decide +kernel
theorem dX8_bare_171 : decode cX8_bare 171 = .ok (.if_icmp .ne 10, 3) := by decide +kernel
theorem dX8_bare_174 : decode cX8_bare 174 = .ok (.iload 6, 2) := by decide +kernel
theorem dX8_bare_176 : decode cX8_bare 176 = .ok (.iconst 1, 1) := by decide +kernel
theorem dX8_bare_177 : decode cX8_bare 177 = .ok (.iadd, 1) := by decide +kernel
theorem dX8_bare_178 : decode cX8_bare 178 = .ok (.goto 7, 3) := by decide +kernel
theorem dX8_bare_181 : decode cX8_bare 181 = .ok (.iload 7, 2) := by decide +kernel
theorem dX8_bare_183 : decode cX8_bare 183 = .ok (.iconst 1, 1) := by decide +kernel
theorem dX8_bare_184 : decode cX8_bare 184 = .ok (.iadd, 1) := by decide +kernel
theorem dX8_bare_185 : decode cX8_bare 185 = .ok (.istore 5, 2) := by decide +kernel
theorem dX8_bare_187 : decode cX8_bare 187 = .ok (.goto (-181), 3) := by decide +kernel
theorem dX8_bare_190 : decode cX8_bare 190 = .ok (.iload 4, 2) := by decide +kernel
theorem dX8_bare_192 : decode cX8_bare 192 = .ok (.ireturn, 1) := by decide +kernel
theorem dX8_unlisted_0 : decode cX8_unlisted 0 = .ok (.iload_n 1, 1) := by decide +kernel
theorem dX8_unlisted_1 : decode cX8_unlisted 1 = .ok (.invokestatic 212, 3) := by decide +kernel
theorem dX8_unlisted_4 : decode cX8_unlisted 4 = .ok (.ifCond .ne 6, 3) := by decide +kernel
theorem dX8_unlisted_7 : decode cX8_unlisted 7 = .ok (.bipush (-2), 2) := by decide +kernel
theorem dX8_unlisted_9 : decode cX8_unlisted 9 = .ok (.ireturn, 1) := by decide +kernel
theorem dX8_unlisted_10 : decode cX8_unlisted 10 = .ok (.iconst 0, 1) := by decide +kernel
theorem dX8_unlisted_11 : decode cX8_unlisted 11 = .ok (.istore_n 2, 1) := by decide +kernel
theorem dX8_unlisted_12 : decode cX8_unlisted 12 = .ok (.iconst 0, 1) := by decide +kernel
theorem dX8_unlisted_13 : decode cX8_unlisted 13 = .ok (.istore_n 3, 1) := by decide +kernel
theorem dX8_unlisted_14 : decode cX8_unlisted 14 = .ok (.iload_n 3, 1) := by decide +kernel
theorem dX8_unlisted_15 : decode cX8_unlisted 15 = .ok (.aload_n 0, 1) := by decide +kernel
theorem dX8_unlisted_16 : decode cX8_unlisted 16 = .ok (.getfield 7, 3) := by decide +kernel
theorem dX8_unlisted_19 : decode cX8_unlisted 19 = .ok (.iconst 1, 1) := by decide +kernel
theorem dX8_unlisted_20 : decode cX8_unlisted 20 = .ok (.iaload, 1) := by decide +kernel
theorem dX8_unlisted_21 : decode cX8_unlisted 21 = .ok (.if_icmp .ge 43, 3) := by decide +kernel
theorem dX8_unlisted_24 : decode cX8_unlisted 24 = .ok (.iload_n 2, 1) := by decide +kernel
theorem dX8_unlisted_25 : decode cX8_unlisted 25 = .ok (.aload_n 0, 1) := by decide +kernel
theorem dX8_unlisted_26 : decode cX8_unlisted 26 = .ok (.iload_n 3, 1) := by decide +kernel
theorem dX8_unlisted_27 : decode cX8_unlisted 27 = .ok (.iconst 2, 1) := by decide +kernel
theorem dX8_unlisted_28 : decode cX8_unlisted 28 = .ok (.invokevirtual 71, 3) := by decide +kernel
theorem dX8_unlisted_31 : decode cX8_unlisted 31 = .ok (.iload_n 1, 1) := by decide +kernel
theorem dX8_unlisted_32 : decode cX8_unlisted 32 = .ok (.if_icmp .ne 23, 3) := by decide +kernel
theorem dX8_unlisted_35 : decode cX8_unlisted 35 = .ok (.aload_n 0, 1) := by decide +kernel
theorem dX8_unlisted_36 : decode cX8_unlisted 36 = .ok (.iload_n 1, 1) := by decide +kernel
theorem dX8_unlisted_37 : decode cX8_unlisted 37 = .ok (.aload_n 0, 1) := by decide +kernel
theorem dX8_unlisted_38 : decode cX8_unlisted 38 = .ok (.iload_n 3, 1) := by decide +kernel
theorem dX8_unlisted_39 : decode cX8_unlisted 39 = .ok (.iconst 0, 1) := by decide +kernel
theorem dX8_unlisted_40 : decode cX8_unlisted 40 = .ok (.invokevirtual 71, 3) := by decide +kernel
theorem dX8_unlisted_43 : decode cX8_unlisted 43 = .ok (.aload_n 0, 1) := by decide +kernel
theorem dX8_unlisted_44 : decode cX8_unlisted 44 = .ok (.iload_n 3, 1) := by decide +kernel
theorem dX8_unlisted_45 : decode cX8_unlisted 45 = .ok (.iconst 1, 1) := by decide +kernel
theorem dX8_unlisted_46 : decode cX8_unlisted 46 = .ok (.invokevirtual 71, 3) := by decide +kernel
theorem dX8_unlisted_49 : decode cX8_unlisted 49 = .ok (.invokevirtual 277, 3) := by decide +kernel
theorem dX8_unlisted_52 : decode cX8_unlisted 52 = .ok (.goto 4, 3) := by decide +kernel
theorem dX8_unlisted_55 : decode cX8_unlisted 55 = .ok (.iconst 0, 1) := by decide +kernel
theorem dX8_unlisted_56 : decode cX8_unlisted 56 = .ok (.iadd, 1) := by decide +kernel
theorem dX8_unlisted_57 : decode cX8_unlisted 57 = .ok (.istore_n 2, 1) := by decide +kernel
theorem dX8_unlisted_58 : decode cX8_unlisted 58 = .ok (.iinc 3 1, 3) := by decide +kernel
theorem dX8_unlisted_61 : decode cX8_unlisted 61 = .ok (.goto (-47), 3) := by decide +kernel
theorem dX8_unlisted_64 : decode cX8_unlisted 64 = .ok (.iload_n 2, 1) := by decide +kernel
theorem dX8_unlisted_65 : decode cX8_unlisted 65 = .ok (.ireturn, 1) := by decide +kernel
theorem dX8_letter_0 : decode cX8_letter 0 = .ok (.aload_n 0, 1) := by decide +kernel
theorem dX8_letter_1 : decode cX8_letter 1 = .ok (.getfield 280, 3) := by decide +kernel
theorem dX8_letter_4 : decode cX8_letter 4 = .ok (.sipush 200, 3) := by decide +kernel
theorem dX8_letter_7 : decode cX8_letter 7 = .ok (.if_icmp .ge 13, 3) := by decide +kernel
theorem dX8_letter_10 : decode cX8_letter 10 = .ok (.aload_n 0, 1) := by decide +kernel
theorem dX8_letter_11 : decode cX8_letter 11 = .ok (.getfield 46, 3) := by decide +kernel
theorem dX8_letter_14 : decode cX8_letter 14 = .ok (.aload_n 0, 1) := by decide +kernel
theorem dX8_letter_15 : decode cX8_letter 15 = .ok (.getfield 280, 3) := by decide +kernel
theorem dX8_letter_18 : decode cX8_letter 18 = .ok (.iload_n 1, 1) := by decide +kernel
theorem dX8_letter_19 : decode cX8_letter 19 = .ok (.iastore, 1) := by decide +kernel
theorem dX8_letter_20 : decode cX8_letter 20 = .ok (.aload_n 0, 1) := by decide +kernel
theorem dX8_letter_21 : decode cX8_letter 21 = .ok (.dup, 1) := by decide +kernel
theorem dX8_letter_22 : decode cX8_letter 22 = .ok (.getfield 280, 3) := by decide +kernel
theorem dX8_letter_25 : decode cX8_letter 25 = .ok (.iconst 1, 1) := by decide +kernel
theorem dX8_letter_26 : decode cX8_letter 26 = .ok (.iadd, 1) := by decide +kernel
theorem dX8_letter_27 : decode cX8_letter 27 = .ok (.putfield 280, 3) := by decide +kernel
theorem dX8_letter_30 : decode cX8_letter 30 = .ok (.return_, 1) := by decide +kernel
theorem dX8_figures_0 : decode cX8_figures 0 = .ok (.iconst 1, 1) := by decide +kernel
theorem dX8_figures_1 : decode cX8_figures 1 = .ok (.istore_n 2, 1) := by decide +kernel
theorem dX8_figures_2 : decode cX8_figures 2 = .ok (.iload_n 1, 1) := by decide +kernel
theorem dX8_figures_3 : decode cX8_figures 3 = .ok (.iload_n 2, 1) := by decide +kernel
theorem dX8_figures_4 : decode cX8_figures 4 = .ok (.idiv, 1) := by decide +kernel
theorem dX8_figures_5 : decode cX8_figures 5 = .ok (.bipush 9, 2) := by decide +kernel
theorem dX8_figures_7 : decode cX8_figures 7 = .ok (.if_icmp .le 11, 3) := by decide +kernel
theorem dX8_figures_10 : decode cX8_figures 10 = .ok (.iload_n 2, 1) := by decide +kernel
theorem dX8_figures_11 : decode cX8_figures 11 = .ok (.bipush 10, 2) := by decide +kernel
theorem dX8_figures_13 : decode cX8_figures 13 = .ok (.imul, 1) := by decide +kernel
theorem dX8_figures_14 : decode cX8_figures 14 = .ok (.istore_n 2, 1) := by decide +kernel
theorem dX8_figures_15 : decode cX8_figures 15 = .ok (.goto (-13), 3) := by decide +kernel
theorem dX8_figures_18 : decode cX8_figures 18 = .ok (.iload_n 2, 1) := by decide +kernel
theorem dX8_figures_19 : decode cX8_figures 19 = .ok (.istore_n 3, 1) := by decide +kernel
theorem dX8_figures_20 : decode cX8_figures 20 = .ok (.iload_n 3, 1) := by decide +kernel
theorem dX8_figures_21 : decode cX8_figures 21 = .ok (.ifCond .le 24, 3) := by decide +kernel
theorem dX8_figures_24 : decode cX8_figures 24 = .ok (.aload_n 0, 1) := by decide +kernel
theorem dX8_figures_25 : decode cX8_figures 25 = .ok (.bipush 48, 2) := by decide +kernel
theorem dX8_figures_27 : decode cX8_figures 27 = .ok (.iload_n 1, 1) := by decide +kernel
theorem dX8_figures_28 : decode cX8_figures 28 = .ok (.iload_n 3, 1) := by decide +kernel
theorem dX8_figures_29 : decode cX8_figures 29 = .ok (.idiv, 1) := by decide +kernel
theorem dX8_figures_30 : decode cX8_figures 30 = .ok (.bipush 10, 2) := by decide +kernel
theorem dX8_figures_32 : decode cX8_figures 32 = .ok (.irem, 1) := by decide +kernel
theorem dX8_figures_33 : decode cX8_figures 33 = .ok (.iadd, 1) := by decide +kernel
theorem dX8_figures_34 : decode cX8_figures 34 = .ok (.invokevirtual 283, 3) := by decide +kernel
theorem dX8_figures_37 : decode cX8_figures 37 = .ok (.iload_n 3, 1) := by decide +kernel
theorem dX8_figures_38 : decode cX8_figures 38 = .ok (.bipush 10, 2) := by decide +kernel
theorem dX8_figures_40 : decode cX8_figures 40 = .ok (.idiv, 1) := by decide +kernel
theorem dX8_figures_41 : decode cX8_figures 41 = .ok (.istore_n 3, 1) := by decide +kernel
theorem dX8_figures_42 : decode cX8_figures 42 = .ok (.goto (-22), 3) := by decide +kernel
theorem dX8_figures_45 : decode cX8_figures 45 = .ok (.return_, 1) := by decide +kernel
theorem dX8_writes_0 : decode cX8_writes 0 = .ok (.iload 4, 2) := by decide +kernel
theorem dX8_writes_2 : decode cX8_writes 2 = .ok (.istore 5, 2) := by decide +kernel
theorem dX8_writes_4 : decode cX8_writes 4 = .ok (.iload_n 1, 1) := by decide +kernel
theorem dX8_writes_5 : decode cX8_writes 5 = .ok (.iconst (-1), 1) := by decide +kernel
theorem dX8_writes_6 : decode cX8_writes 6 = .ok (.if_icmp .ne 7, 3) := by decide +kernel
theorem dX8_writes_9 : decode cX8_writes 9 = .ok (.iload_n 2, 1) := by decide +kernel
theorem dX8_writes_10 : decode cX8_writes 10 = .ok (.goto 12, 3) := by decide +kernel
theorem dX8_writes_13 : decode cX8_writes 13 = .ok (.iload_n 2, 1) := by decide +kernel
theorem dX8_writes_14 : decode cX8_writes 14 = .ok (.aload_n 0, 1) := by decide +kernel
theorem dX8_writes_15 : decode cX8_writes 15 = .ok (.iload_n 1, 1) := by decide +kernel
theorem dX8_writes_16 : decode cX8_writes 16 = .ok (.invokevirtual 93, 3) := by decide +kernel
theorem dX8_writes_19 : decode cX8_writes 19 = .ok (.invokestatic 64, 3) := by decide +kernel
theorem dX8_writes_22 : decode cX8_writes 22 = .ok (.istore 6, 2) := by decide +kernel
theorem dX8_writes_24 : decode cX8_writes 24 = .ok (.iload_n 1, 1) := by decide +kernel
theorem dX8_writes_25 : decode cX8_writes 25 = .ok (.iconst (-1), 1) := by decide +kernel
theorem dX8_writes_26 : decode cX8_writes 26 = .ok (.if_icmp .ne 7, 3) := by decide +kernel
theorem dX8_writes_29 : decode cX8_writes 29 = .ok (.iload_n 3, 1) := by decide +kernel
theorem dX8_writes_30 : decode cX8_writes 30 = .ok (.goto 12, 3) := by decide +kernel
theorem dX8_writes_33 : decode cX8_writes 33 = .ok (.iload_n 3, 1) := by decide +kernel
theorem dX8_writes_34 : decode cX8_writes 34 = .ok (.aload_n 0, 1) := by decide +kernel
theorem dX8_writes_35 : decode cX8_writes 35 = .ok (.iload_n 1, 1) := by decide +kernel
theorem dX8_writes_36 : decode cX8_writes 36 = .ok (.invokevirtual 97, 3) := by decide +kernel
theorem dX8_writes_39 : decode cX8_writes 39 = .ok (.invokestatic 68, 3) := by decide +kernel
theorem dX8_writes_42 : decode cX8_writes 42 = .ok (.istore 7, 2) := by decide +kernel
theorem dX8_writes_44 : decode cX8_writes 44 = .ok (.iload 6, 2) := by decide +kernel
theorem dX8_writes_46 : decode cX8_writes 46 = .ok (.iload 7, 2) := by decide +kernel
theorem dX8_writes_48 : decode cX8_writes 48 = .ok (.if_icmp .gt 174, 3) := by decide +kernel
theorem dX8_writes_51 : decode cX8_writes 51 = .ok (.iload 7, 2) := by decide +kernel
theorem dX8_writes_53 : decode cX8_writes 53 = .ok (.istore 8, 2) := by decide +kernel
theorem dX8_writes_55 : decode cX8_writes 55 = .ok (.iconst (-1), 1) := by decide +kernel
theorem dX8_writes_56 : decode cX8_writes 56 = .ok (.istore 9, 2) := by decide +kernel
theorem dX8_writes_58 : decode cX8_writes 58 = .ok (.iconst 0, 1) := by decide +kernel
theorem dX8_writes_59 : decode cX8_writes 59 = .ok (.istore 10, 2) := by decide +kernel
theorem dX8_writes_61 : decode cX8_writes 61 = .ok (.iload 10, 2) := by decide +kernel
theorem dX8_writes_63 : decode cX8_writes 63 = .ok (.aload_n 0, 1) := by decide +kernel
theorem dX8_writes_64 : decode cX8_writes 64 = .ok (.getfield 7, 3) := by decide +kernel
theorem dX8_writes_67 : decode cX8_writes 67 = .ok (.iconst 0, 1) := by decide +kernel
theorem dX8_writes_68 : decode cX8_writes 68 = .ok (.iaload, 1) := by decide +kernel
theorem dX8_writes_69 : decode cX8_writes 69 = .ok (.if_icmp .ge 86, 3) := by decide +kernel
theorem dX8_writes_72 : decode cX8_writes 72 = .ok (.aload_n 0, 1) := by decide +kernel
theorem dX8_writes_73 : decode cX8_writes 73 = .ok (.iload 10, 2) := by decide +kernel
theorem dX8_writes_75 : decode cX8_writes 75 = .ok (.invokevirtual 100, 3) := by decide +kernel
theorem dX8_writes_78 : decode cX8_writes 78 = .ok (.iload_n 1, 1) := by decide +kernel
theorem dX8_writes_79 : decode cX8_writes 79 = .ok (.if_icmp .ne 70, 3) := by decide +kernel
theorem dX8_writes_82 : decode cX8_writes 82 = .ok (.iload 6, 2) := by decide +kernel
theorem dX8_writes_84 : decode cX8_writes 84 = .ok (.i2l, 1) := by decide +kernel
theorem dX8_writes_85 : decode cX8_writes 85 = .ok (.aload_n 0, 1) := by decide +kernel
theorem dX8_writes_86 : decode cX8_writes 86 = .ok (.iload 10, 2) := by decide +kernel
theorem dX8_writes_88 : decode cX8_writes 88 = .ok (.invokevirtual 93, 3) := by decide +kernel
theorem dX8_writes_91 : decode cX8_writes 91 = .ok (.i2l, 1) := by decide +kernel
theorem dX8_writes_92 : decode cX8_writes 92 = .ok (.aload_n 0, 1) := by decide +kernel
theorem dX8_writes_93 : decode cX8_writes 93 = .ok (.iload 10, 2) := by decide +kernel
theorem dX8_writes_95 : decode cX8_writes 95 = .ok (.invokevirtual 97, 3) := by decide +kernel
theorem dX8_writes_98 : decode cX8_writes 98 = .ok (.i2l, 1) := by decide +kernel
theorem dX8_writes_99 : decode cX8_writes 99 = .ok (.invokestatic 58, 3) := by decide +kernel
theorem dX8_writes_102 : decode cX8_writes 102 = .ok (.ifCond .eq 12, 3) := by decide +kernel
theorem dX8_writes_105 : decode cX8_writes 105 = .ok (.aload_n 0, 1) := by decide +kernel
theorem dX8_writes_106 : decode cX8_writes 106 = .ok (.iload 10, 2) := by decide +kernel
theorem dX8_writes_108 : decode cX8_writes 108 = .ok (.invokevirtual 97, 3) := by decide +kernel
theorem dX8_writes_111 : decode cX8_writes 111 = .ok (.goto 5, 3) := by decide +kernel
theorem dX8_writes_114 : decode cX8_writes 114 = .ok (.iload 9, 2) := by decide +kernel
theorem dX8_writes_116 : decode cX8_writes 116 = .ok (.istore 9, 2) := by decide +kernel
theorem dX8_writes_118 : decode cX8_writes 118 = .ok (.aload_n 0, 1) := by decide +kernel
theorem dX8_writes_119 : decode cX8_writes 119 = .ok (.iload 10, 2) := by decide +kernel
theorem dX8_writes_121 : decode cX8_writes 121 = .ok (.invokevirtual 93, 3) := by decide +kernel
theorem dX8_writes_124 : decode cX8_writes 124 = .ok (.iload 6, 2) := by decide +kernel
theorem dX8_writes_126 : decode cX8_writes 126 = .ok (.if_icmp .le 19, 3) := by decide +kernel
theorem dX8_writes_129 : decode cX8_writes 129 = .ok (.iload 8, 2) := by decide +kernel
theorem dX8_writes_131 : decode cX8_writes 131 = .ok (.aload_n 0, 1) := by decide +kernel
theorem dX8_writes_132 : decode cX8_writes 132 = .ok (.iload 10, 2) := by decide +kernel
theorem dX8_writes_134 : decode cX8_writes 134 = .ok (.invokevirtual 93, 3) := by decide +kernel
theorem dX8_writes_137 : decode cX8_writes 137 = .ok (.iconst 1, 1) := by decide +kernel
theorem dX8_writes_138 : decode cX8_writes 138 = .ok (.isub, 1) := by decide +kernel
theorem dX8_writes_139 : decode cX8_writes 139 = .ok (.invokestatic 68, 3) := by decide +kernel
theorem dX8_writes_142 : decode cX8_writes 142 = .ok (.goto 5, 3) := by decide +kernel
theorem dX8_writes_145 : decode cX8_writes 145 = .ok (.iload 8, 2) := by decide +kernel
theorem dX8_writes_147 : decode cX8_writes 147 = .ok (.istore 8, 2) := by decide +kernel
theorem dX8_writes_149 : decode cX8_writes 149 = .ok (.iinc 10 1, 3) := by decide +kernel
theorem dX8_writes_152 : decode cX8_writes 152 = .ok (.goto (-91), 3) := by decide +kernel
theorem dX8_writes_155 : decode cX8_writes 155 = .ok (.iload 9, 2) := by decide +kernel
theorem dX8_writes_157 : decode cX8_writes 157 = .ok (.iconst (-1), 1) := by decide +kernel
theorem dX8_writes_158 : decode cX8_writes 158 = .ok (.if_icmp .ne 42, 3) := by decide +kernel
theorem dX8_writes_161 : decode cX8_writes 161 = .ok (.iload 5, 2) := by decide +kernel
theorem dX8_writes_163 : decode cX8_writes 163 = .ok (.ifCond .eq 9, 3) := by decide +kernel
theorem dX8_writes_166 : decode cX8_writes 166 = .ok (.aload_n 0, 1) := by decide +kernel
theorem dX8_writes_167 : decode cX8_writes 167 = .ok (.bipush 44, 2) := by decide +kernel
theorem dX8_writes_169 : decode cX8_writes 169 = .ok (.invokevirtual 283, 3) := by decide +kernel
theorem dX8_writes_172 : decode cX8_writes 172 = .ok (.iconst 1, 1) := by decide +kernel
theorem dX8_writes_173 : decode cX8_writes 173 = .ok (.istore 5, 2) := by decide +kernel
theorem dX8_writes_175 : decode cX8_writes 175 = .ok (.aload_n 0, 1) := by decide +kernel
theorem dX8_writes_176 : decode cX8_writes 176 = .ok (.iload 6, 2) := by decide +kernel
theorem dX8_writes_178 : decode cX8_writes 178 = .ok (.invokevirtual 286, 3) := by decide +kernel
theorem dX8_writes_181 : decode cX8_writes 181 = .ok (.iload 8, 2) := by decide +kernel
theorem dX8_writes_183 : decode cX8_writes 183 = .ok (.iload 6, 2) := by decide +kernel
theorem dX8_writes_185 : decode cX8_writes 185 = .ok (.if_icmp .le 15, 3) := by decide +kernel
theorem dX8_writes_188 : decode cX8_writes 188 = .ok (.aload_n 0, 1) := by decide +kernel
theorem dX8_writes_189 : decode cX8_writes 189 = .ok (.bipush 45, 2) := by decide +kernel
theorem dX8_writes_191 : decode cX8_writes 191 = .ok (.invokevirtual 283, 3) := by decide +kernel
theorem dX8_writes_194 : decode cX8_writes 194 = .ok (.aload_n 0, 1) := by decide +kernel
theorem dX8_writes_195 : decode cX8_writes 195 = .ok (.iload 8, 2) := by decide +kernel
theorem dX8_writes_197 : decode cX8_writes 197 = .ok (.invokevirtual 286, 3) := by decide +kernel
theorem dX8_writes_200 : decode cX8_writes 200 = .ok (.iload 9, 2) := by decide +kernel
theorem dX8_writes_202 : decode cX8_writes 202 = .ok (.iconst (-1), 1) := by decide +kernel
theorem dX8_writes_203 : decode cX8_writes 203 = .ok (.if_icmp .ne 10, 3) := by decide +kernel
theorem dX8_writes_206 : decode cX8_writes 206 = .ok (.iload 8, 2) := by decide +kernel
theorem dX8_writes_208 : decode cX8_writes 208 = .ok (.iconst 1, 1) := by decide +kernel
theorem dX8_writes_209 : decode cX8_writes 209 = .ok (.iadd, 1) := by decide +kernel
theorem dX8_writes_210 : decode cX8_writes 210 = .ok (.goto 7, 3) := by decide +kernel
theorem dX8_writes_213 : decode cX8_writes 213 = .ok (.iload 9, 2) := by decide +kernel
theorem dX8_writes_215 : decode cX8_writes 215 = .ok (.iconst 1, 1) := by decide +kernel
theorem dX8_writes_216 : decode cX8_writes 216 = .ok (.iadd, 1) := by decide +kernel
theorem dX8_writes_217 : decode cX8_writes 217 = .ok (.istore 6, 2) := by decide +kernel
theorem dX8_writes_219 : decode cX8_writes 219 = .ok (.goto (-175), 3) := by decide +kernel
theorem dX8_writes_222 : decode cX8_writes 222 = .ok (.iload 5, 2) := by decide +kernel
theorem dX8_writes_224 : decode cX8_writes 224 = .ok (.ireturn, 1) := by decide +kernel
theorem dX8_labels_0 : decode cX8_labels 0 = .ok (.aload_n 0, 1) := by decide +kernel
theorem dX8_labels_1 : decode cX8_labels 1 = .ok (.iload_n 1, 1) := by decide +kernel
theorem dX8_labels_2 : decode cX8_labels 2 = .ok (.iload_n 2, 1) := by decide +kernel
theorem dX8_labels_3 : decode cX8_labels 3 = .ok (.invokevirtual 245, 3) := by decide +kernel
theorem dX8_labels_6 : decode cX8_labels 6 = .ok (.ifCond .ne 4, 3) := by decide +kernel
theorem dX8_labels_9 : decode cX8_labels 9 = .ok (.return_, 1) := by decide +kernel
theorem dX8_labels_10 : decode cX8_labels 10 = .ok (.aload_n 0, 1) := by decide +kernel
theorem dX8_labels_11 : decode cX8_labels 11 = .ok (.getfield 280, 3) := by decide +kernel
theorem dX8_labels_14 : decode cX8_labels 14 = .ok (.ifCond .le 9, 3) := by decide +kernel
theorem dX8_labels_17 : decode cX8_labels 17 = .ok (.aload_n 0, 1) := by decide +kernel
theorem dX8_labels_18 : decode cX8_labels 18 = .ok (.bipush 59, 2) := by decide +kernel
theorem dX8_labels_20 : decode cX8_labels 20 = .ok (.invokevirtual 283, 3) := by decide +kernel
theorem dX8_labels_23 : decode cX8_labels 23 = .ok (.aload_n 0, 1) := by decide +kernel
theorem dX8_labels_24 : decode cX8_labels 24 = .ok (.iload_n 1, 1) := by decide +kernel
theorem dX8_labels_25 : decode cX8_labels 25 = .ok (.iconst (-1), 1) := by decide +kernel
theorem dX8_labels_26 : decode cX8_labels 26 = .ok (.if_icmp .ne 8, 3) := by decide +kernel
theorem dX8_labels_29 : decode cX8_labels 29 = .ok (.bipush 120, 2) := by decide +kernel
theorem dX8_labels_31 : decode cX8_labels 31 = .ok (.goto 7, 3) := by decide +kernel
theorem dX8_labels_34 : decode cX8_labels 34 = .ok (.bipush 48, 2) := by decide +kernel
theorem dX8_labels_36 : decode cX8_labels 36 = .ok (.iload_n 1, 1) := by decide +kernel
theorem dX8_labels_37 : decode cX8_labels 37 = .ok (.iadd, 1) := by decide +kernel
theorem dX8_labels_38 : decode cX8_labels 38 = .ok (.invokevirtual 283, 3) := by decide +kernel
theorem dX8_labels_41 : decode cX8_labels 41 = .ok (.aload_n 0, 1) := by decide +kernel
theorem dX8_labels_42 : decode cX8_labels 42 = .ok (.bipush 58, 2) := by decide +kernel
theorem dX8_labels_44 : decode cX8_labels 44 = .ok (.invokevirtual 283, 3) := by decide +kernel
theorem dX8_labels_47 : decode cX8_labels 47 = .ok (.iconst 0, 1) := by decide +kernel
theorem dX8_labels_48 : decode cX8_labels 48 = .ok (.istore_n 3, 1) := by decide +kernel
theorem dX8_labels_49 : decode cX8_labels 49 = .ok (.iconst 0, 1) := by decide +kernel
theorem dX8_labels_50 : decode cX8_labels 50 = .ok (.istore 4, 2) := by decide +kernel
theorem dX8_labels_52 : decode cX8_labels 52 = .ok (.iload 4, 2) := by decide +kernel
theorem dX8_labels_54 : decode cX8_labels 54 = .ok (.aload_n 0, 1) := by decide +kernel
theorem dX8_labels_55 : decode cX8_labels 55 = .ok (.getfield 7, 3) := by decide +kernel
theorem dX8_labels_58 : decode cX8_labels 58 = .ok (.iconst 1, 1) := by decide +kernel
theorem dX8_labels_59 : decode cX8_labels 59 = .ok (.iaload, 1) := by decide +kernel
theorem dX8_labels_60 : decode cX8_labels 60 = .ok (.if_icmp .ge 45, 3) := by decide +kernel
theorem dX8_labels_63 : decode cX8_labels 63 = .ok (.aload_n 0, 1) := by decide +kernel
theorem dX8_labels_64 : decode cX8_labels 64 = .ok (.iload 4, 2) := by decide +kernel
theorem dX8_labels_66 : decode cX8_labels 66 = .ok (.iconst 2, 1) := by decide +kernel
theorem dX8_labels_67 : decode cX8_labels 67 = .ok (.invokevirtual 71, 3) := by decide +kernel
theorem dX8_labels_70 : decode cX8_labels 70 = .ok (.iload_n 2, 1) := by decide +kernel
theorem dX8_labels_71 : decode cX8_labels 71 = .ok (.if_icmp .ne 26, 3) := by decide +kernel
theorem dX8_labels_74 : decode cX8_labels 74 = .ok (.aload_n 0, 1) := by decide +kernel
theorem dX8_labels_75 : decode cX8_labels 75 = .ok (.iload_n 1, 1) := by decide +kernel
theorem dX8_labels_76 : decode cX8_labels 76 = .ok (.aload_n 0, 1) := by decide +kernel
theorem dX8_labels_77 : decode cX8_labels 77 = .ok (.iload 4, 2) := by decide +kernel
theorem dX8_labels_79 : decode cX8_labels 79 = .ok (.iconst 0, 1) := by decide +kernel
theorem dX8_labels_80 : decode cX8_labels 80 = .ok (.invokevirtual 71, 3) := by decide +kernel
theorem dX8_labels_83 : decode cX8_labels 83 = .ok (.aload_n 0, 1) := by decide +kernel
theorem dX8_labels_84 : decode cX8_labels 84 = .ok (.iload 4, 2) := by decide +kernel
theorem dX8_labels_86 : decode cX8_labels 86 = .ok (.iconst 1, 1) := by decide +kernel
theorem dX8_labels_87 : decode cX8_labels 87 = .ok (.invokevirtual 71, 3) := by decide +kernel
theorem dX8_labels_90 : decode cX8_labels 90 = .ok (.iload_n 3, 1) := by decide +kernel
theorem dX8_labels_91 : decode cX8_labels 91 = .ok (.invokevirtual 289, 3) := by decide +kernel
theorem dX8_labels_94 : decode cX8_labels 94 = .ok (.goto 4, 3) := by decide +kernel
theorem dX8_labels_97 : decode cX8_labels 97 = .ok (.iload_n 3, 1) := by decide +kernel
theorem dX8_labels_98 : decode cX8_labels 98 = .ok (.istore_n 3, 1) := by decide +kernel
theorem dX8_labels_99 : decode cX8_labels 99 = .ok (.iinc 4 1, 3) := by decide +kernel
theorem dX8_labels_102 : decode cX8_labels 102 = .ok (.goto (-50), 3) := by decide +kernel
theorem dX8_labels_105 : decode cX8_labels 105 = .ok (.return_, 1) := by decide +kernel
theorem dX8_label_0 : decode cX8_label 0 = .ok (.iload_n 1, 1) := by decide +kernel
theorem dX8_label_1 : decode cX8_label 1 = .ok (.invokestatic 212, 3) := by decide +kernel
theorem dX8_label_4 : decode cX8_label 4 = .ok (.ifCond .ne 6, 3) := by decide +kernel
theorem dX8_label_7 : decode cX8_label 7 = .ok (.bipush (-2), 2) := by decide +kernel
theorem dX8_label_9 : decode cX8_label 9 = .ok (.ireturn, 1) := by decide +kernel
theorem dX8_label_10 : decode cX8_label 10 = .ok (.aload_n 0, 1) := by decide +kernel
theorem dX8_label_11 : decode cX8_label 11 = .ok (.iconst 0, 1) := by decide +kernel
theorem dX8_label_12 : decode cX8_label 12 = .ok (.putfield 280, 3) := by decide +kernel
theorem dX8_label_15 : decode cX8_label 15 = .ok (.iconst 0, 1) := by decide +kernel
theorem dX8_label_16 : decode cX8_label 16 = .ok (.istore_n 2, 1) := by decide +kernel
theorem dX8_label_17 : decode cX8_label 17 = .ok (.iload_n 2, 1) := by decide +kernel
theorem dX8_label_18 : decode cX8_label 18 = .ok (.aload_n 0, 1) := by decide +kernel
theorem dX8_label_19 : decode cX8_label 19 = .ok (.getfield 7, 3) := by decide +kernel
theorem dX8_label_22 : decode cX8_label 22 = .ok (.iconst 0, 1) := by decide +kernel
theorem dX8_label_23 : decode cX8_label 23 = .ok (.iaload, 1) := by decide +kernel
theorem dX8_label_24 : decode cX8_label 24 = .ok (.if_icmp .ge 15, 3) := by decide +kernel
theorem dX8_label_27 : decode cX8_label 27 = .ok (.aload_n 0, 1) := by decide +kernel
theorem dX8_label_28 : decode cX8_label 28 = .ok (.iload_n 2, 1) := by decide +kernel
theorem dX8_label_29 : decode cX8_label 29 = .ok (.iload_n 1, 1) := by decide +kernel
theorem dX8_label_30 : decode cX8_label 30 = .ok (.invokevirtual 293, 3) := by decide +kernel
theorem dX8_label_33 : decode cX8_label 33 = .ok (.iinc 2 1, 3) := by decide +kernel
theorem dX8_label_36 : decode cX8_label 36 = .ok (.goto (-19), 3) := by decide +kernel
theorem dX8_label_39 : decode cX8_label 39 = .ok (.aload_n 0, 1) := by decide +kernel
theorem dX8_label_40 : decode cX8_label 40 = .ok (.iconst (-1), 1) := by decide +kernel
theorem dX8_label_41 : decode cX8_label 41 = .ok (.iload_n 1, 1) := by decide +kernel
theorem dX8_label_42 : decode cX8_label 42 = .ok (.invokevirtual 293, 3) := by decide +kernel
theorem dX8_label_45 : decode cX8_label 45 = .ok (.aload_n 0, 1) := by decide +kernel
theorem dX8_label_46 : decode cX8_label 46 = .ok (.getfield 280, 3) := by decide +kernel
theorem dX8_label_49 : decode cX8_label 49 = .ok (.sipush 200, 3) := by decide +kernel
theorem dX8_label_52 : decode cX8_label 52 = .ok (.if_icmp .le 6, 3) := by decide +kernel
theorem dX8_label_55 : decode cX8_label 55 = .ok (.bipush (-5), 2) := by decide +kernel
theorem dX8_label_57 : decode cX8_label 57 = .ok (.ireturn, 1) := by decide +kernel
theorem dX8_label_58 : decode cX8_label 58 = .ok (.iconst 0, 1) := by decide +kernel
theorem dX8_label_59 : decode cX8_label 59 = .ok (.istore_n 2, 1) := by decide +kernel
theorem dX8_label_60 : decode cX8_label 60 = .ok (.iload_n 2, 1) := by decide +kernel
theorem dX8_label_61 : decode cX8_label 61 = .ok (.aload_n 0, 1) := by decide +kernel
theorem dX8_label_62 : decode cX8_label 62 = .ok (.getfield 280, 3) := by decide +kernel
theorem dX8_label_65 : decode cX8_label 65 = .ok (.if_icmp .ge 21, 3) := by decide +kernel
theorem dX8_label_68 : decode cX8_label 68 = .ok (.aload_n 0, 1) := by decide +kernel
theorem dX8_label_69 : decode cX8_label 69 = .ok (.getfield 16, 3) := by decide +kernel
theorem dX8_label_72 : decode cX8_label 72 = .ok (.iload_n 2, 1) := by decide +kernel
theorem dX8_label_73 : decode cX8_label 73 = .ok (.aload_n 0, 1) := by decide +kernel
theorem dX8_label_74 : decode cX8_label 74 = .ok (.getfield 46, 3) := by decide +kernel
theorem dX8_label_77 : decode cX8_label 77 = .ok (.iload_n 2, 1) := by decide +kernel
theorem dX8_label_78 : decode cX8_label 78 = .ok (.iaload, 1) := by decide +kernel
theorem dX8_label_79 : decode cX8_label 79 = .ok (.iastore, 1) := by decide +kernel
theorem dX8_label_80 : decode cX8_label 80 = .ok (.iinc 2 1, 3) := by decide +kernel
theorem dX8_label_83 : decode cX8_label 83 = .ok (.goto (-23), 3) := by decide +kernel
theorem dX8_label_86 : decode cX8_label 86 = .ok (.aload_n 0, 1) := by decide +kernel
theorem dX8_label_87 : decode cX8_label 87 = .ok (.aload_n 0, 1) := by decide +kernel
theorem dX8_label_88 : decode cX8_label 88 = .ok (.getfield 280, 3) := by decide +kernel
theorem dX8_label_91 : decode cX8_label 91 = .ok (.putfield 53, 3) := by decide +kernel
theorem dX8_label_94 : decode cX8_label 94 = .ok (.aload_n 0, 1) := by decide +kernel
theorem dX8_label_95 : decode cX8_label 95 = .ok (.getfield 53, 3) := by decide +kernel
theorem dX8_label_98 : decode cX8_label 98 = .ok (.ireturn, 1) := by decide +kernel
theorem dX8_paper_0 : decode cX8_paper 0 = .ok (.iload_n 1, 1) := by decide +kernel
theorem dX8_paper_1 : decode cX8_paper 1 = .ok (.i2l, 1) := by decide +kernel
theorem dX8_paper_2 : decode cX8_paper 2 = .ok (.lconst 0, 1) := by decide +kernel
theorem dX8_paper_3 : decode cX8_paper 3 = .ok (.aload_n 0, 1) := by decide +kernel
theorem dX8_paper_4 : decode cX8_paper 4 = .ok (.getfield 53, 3) := by decide +kernel
theorem dX8_paper_7 : decode cX8_paper 7 = .ok (.iconst 1, 1) := by decide +kernel
theorem dX8_paper_8 : decode cX8_paper 8 = .ok (.isub, 1) := by decide +kernel
theorem dX8_paper_9 : decode cX8_paper 9 = .ok (.i2l, 1) := by decide +kernel
theorem dX8_paper_10 : decode cX8_paper 10 = .ok (.invokestatic 58, 3) := by decide +kernel
theorem dX8_paper_13 : decode cX8_paper 13 = .ok (.ifCond .eq 12, 3) := by decide +kernel
theorem dX8_paper_16 : decode cX8_paper 16 = .ok (.aload_n 0, 1) := by decide +kernel
theorem dX8_paper_17 : decode cX8_paper 17 = .ok (.getfield 16, 3) := by decide +kernel
theorem dX8_paper_20 : decode cX8_paper 20 = .ok (.iload_n 1, 1) := by decide +kernel
theorem dX8_paper_21 : decode cX8_paper 21 = .ok (.iaload, 1) := by decide +kernel
theorem dX8_paper_22 : decode cX8_paper 22 = .ok (.goto 4, 3) := by decide +kernel
theorem dX8_paper_25 : decode cX8_paper 25 = .ok (.iconst (-1), 1) := by decide +kernel
theorem dX8_paper_26 : decode cX8_paper 26 = .ok (.ireturn, 1) := by decide +kernel
theorem dX8_plan_0 : decode cX8_plan 0 = .ok (.aload_n 0, 1) := by decide +kernel
theorem dX8_plan_1 : decode cX8_plan 1 = .ok (.iload_n 1, 1) := by decide +kernel
theorem dX8_plan_2 : decode cX8_plan 2 = .ok (.invokevirtual 200, 3) := by decide +kernel
theorem dX8_plan_5 : decode cX8_plan 5 = .ok (.ifCond .ne 6, 3) := by decide +kernel
theorem dX8_plan_8 : decode cX8_plan 8 = .ok (.bipush (-2), 2) := by decide +kernel
theorem dX8_plan_10 : decode cX8_plan 10 = .ok (.ireturn, 1) := by decide +kernel
theorem dX8_plan_11 : decode cX8_plan 11 = .ok (.iload_n 2, 1) := by decide +kernel
theorem dX8_plan_12 : decode cX8_plan 12 = .ok (.iconst (-1), 1) := by decide +kernel
theorem dX8_plan_13 : decode cX8_plan 13 = .ok (.if_icmp .lt 20, 3) := by decide +kernel
theorem dX8_plan_16 : decode cX8_plan 16 = .ok (.iload_n 2, 1) := by decide +kernel
theorem dX8_plan_17 : decode cX8_plan 17 = .ok (.iconst (-1), 1) := by decide +kernel
theorem dX8_plan_18 : decode cX8_plan 18 = .ok (.if_icmp .eq 18, 3) := by decide +kernel
theorem dX8_plan_21 : decode cX8_plan 21 = .ok (.iload_n 3, 1) := by decide +kernel
theorem dX8_plan_22 : decode cX8_plan 22 = .ok (.i2l, 1) := by decide +kernel
theorem dX8_plan_23 : decode cX8_plan 23 = .ok (.lconst 0, 1) := by decide +kernel
theorem dX8_plan_24 : decode cX8_plan 24 = .ok (.ldc2_w 255, 3) := by decide +kernel
theorem dX8_plan_27 : decode cX8_plan 27 = .ok (.invokestatic 58, 3) := by decide +kernel
theorem dX8_plan_30 : decode cX8_plan 30 = .ok (.ifCond .ne 6, 3) := by decide +kernel
theorem dX8_plan_33 : decode cX8_plan 33 = .ok (.bipush (-3), 2) := by decide +kernel
theorem dX8_plan_35 : decode cX8_plan 35 = .ok (.ireturn, 1) := by decide +kernel
theorem dX8_plan_36 : decode cX8_plan 36 = .ok (.aload_n 0, 1) := by decide +kernel
theorem dX8_plan_37 : decode cX8_plan 37 = .ok (.iload_n 1, 1) := by decide +kernel
theorem dX8_plan_38 : decode cX8_plan 38 = .ok (.invokevirtual 225, 3) := by decide +kernel
theorem dX8_plan_41 : decode cX8_plan 41 = .ok (.iload_n 2, 1) := by decide +kernel
theorem dX8_plan_42 : decode cX8_plan 42 = .ok (.iconst (-1), 1) := by decide +kernel
theorem dX8_plan_43 : decode cX8_plan 43 = .ok (.if_icmp .ne 10, 3) := by decide +kernel
theorem dX8_plan_46 : decode cX8_plan 46 = .ok (.aload_n 0, 1) := by decide +kernel
theorem dX8_plan_47 : decode cX8_plan 47 = .ok (.getfield 116, 3) := by decide +kernel
theorem dX8_plan_50 : decode cX8_plan 50 = .ok (.goto 25, 3) := by decide +kernel
theorem dX8_plan_53 : decode cX8_plan 53 = .ok (.iload_n 2, 1) := by decide +kernel
theorem dX8_plan_54 : decode cX8_plan 54 = .ok (.aload_n 0, 1) := by decide +kernel
theorem dX8_plan_55 : decode cX8_plan 55 = .ok (.getfield 116, 3) := by decide +kernel
theorem dX8_plan_58 : decode cX8_plan 58 = .ok (.if_icmp .ge 16, 3) := by decide +kernel
theorem dX8_plan_61 : decode cX8_plan 61 = .ok (.aload_n 0, 1) := by decide +kernel
theorem dX8_plan_62 : decode cX8_plan 62 = .ok (.getfield 25, 3) := by decide +kernel
theorem dX8_plan_65 : decode cX8_plan 65 = .ok (.iconst 3, 1) := by decide +kernel
theorem dX8_plan_66 : decode cX8_plan 66 = .ok (.iload_n 2, 1) := by decide +kernel
theorem dX8_plan_67 : decode cX8_plan 67 = .ok (.imul, 1) := by decide +kernel
theorem dX8_plan_68 : decode cX8_plan 68 = .ok (.iload_n 3, 1) := by decide +kernel
theorem dX8_plan_69 : decode cX8_plan 69 = .ok (.iadd, 1) := by decide +kernel
theorem dX8_plan_70 : decode cX8_plan 70 = .ok (.iaload, 1) := by decide +kernel
theorem dX8_plan_71 : decode cX8_plan 71 = .ok (.goto 4, 3) := by decide +kernel
theorem dX8_plan_74 : decode cX8_plan 74 = .ok (.iconst (-1), 1) := by decide +kernel
theorem dX8_plan_75 : decode cX8_plan 75 = .ok (.ireturn, 1) := by decide +kernel
theorem dX8_left_0 : decode cX8_left 0 = .ok (.aload_n 0, 1) := by decide +kernel
theorem dX8_left_1 : decode cX8_left 1 = .ok (.iload_n 1, 1) := by decide +kernel
theorem dX8_left_2 : decode cX8_left 2 = .ok (.invokevirtual 200, 3) := by decide +kernel
theorem dX8_left_5 : decode cX8_left 5 = .ok (.ifCond .ne 6, 3) := by decide +kernel
theorem dX8_left_8 : decode cX8_left 8 = .ok (.bipush (-2), 2) := by decide +kernel
theorem dX8_left_10 : decode cX8_left 10 = .ok (.ireturn, 1) := by decide +kernel
theorem dX8_left_11 : decode cX8_left 11 = .ok (.aload_n 0, 1) := by decide +kernel
theorem dX8_left_12 : decode cX8_left 12 = .ok (.iload_n 1, 1) := by decide +kernel
theorem dX8_left_13 : decode cX8_left 13 = .ok (.invokevirtual 225, 3) := by decide +kernel
theorem dX8_left_16 : decode cX8_left 16 = .ok (.aload_n 0, 1) := by decide +kernel
theorem dX8_left_17 : decode cX8_left 17 = .ok (.iload_n 1, 1) := by decide +kernel
theorem dX8_left_18 : decode cX8_left 18 = .ok (.invokevirtual 97, 3) := by decide +kernel
theorem dX8_left_21 : decode cX8_left 21 = .ok (.aload_n 0, 1) := by decide +kernel
theorem dX8_left_22 : decode cX8_left 22 = .ok (.iload_n 1, 1) := by decide +kernel
theorem dX8_left_23 : decode cX8_left 23 = .ok (.invokevirtual 93, 3) := by decide +kernel
theorem dX8_left_26 : decode cX8_left 26 = .ok (.isub, 1) := by decide +kernel
theorem dX8_left_27 : decode cX8_left 27 = .ok (.iconst 1, 1) := by decide +kernel
theorem dX8_left_28 : decode cX8_left 28 = .ok (.iadd, 1) := by decide +kernel
theorem dX8_left_29 : decode cX8_left 29 = .ok (.aload_n 0, 1) := by decide +kernel
theorem dX8_left_30 : decode cX8_left 30 = .ok (.iconst (-1), 1) := by decide +kernel
theorem dX8_left_31 : decode cX8_left 31 = .ok (.aload_n 0, 1) := by decide +kernel
theorem dX8_left_32 : decode cX8_left 32 = .ok (.iload_n 1, 1) := by decide +kernel
theorem dX8_left_33 : decode cX8_left 33 = .ok (.invokevirtual 93, 3) := by decide +kernel
theorem dX8_left_36 : decode cX8_left 36 = .ok (.aload_n 0, 1) := by decide +kernel
theorem dX8_left_37 : decode cX8_left 37 = .ok (.iload_n 1, 1) := by decide +kernel
theorem dX8_left_38 : decode cX8_left 38 = .ok (.invokevirtual 97, 3) := by decide +kernel
theorem dX8_left_41 : decode cX8_left 41 = .ok (.invokevirtual 79, 3) := by decide +kernel
theorem dX8_left_44 : decode cX8_left 44 = .ok (.isub, 1) := by decide +kernel
theorem dX8_left_45 : decode cX8_left 45 = .ok (.istore_n 2, 1) := by decide +kernel
theorem dX8_left_46 : decode cX8_left 46 = .ok (.iconst 0, 1) := by decide +kernel
theorem dX8_left_47 : decode cX8_left 47 = .ok (.istore_n 3, 1) := by decide +kernel
theorem dX8_left_48 : decode cX8_left 48 = .ok (.iload_n 3, 1) := by decide +kernel
theorem dX8_left_49 : decode cX8_left 49 = .ok (.aload_n 0, 1) := by decide +kernel
theorem dX8_left_50 : decode cX8_left 50 = .ok (.getfield 116, 3) := by decide +kernel
theorem dX8_left_53 : decode cX8_left 53 = .ok (.if_icmp .ge 33, 3) := by decide +kernel
theorem dX8_left_56 : decode cX8_left 56 = .ok (.iload_n 2, 1) := by decide +kernel
theorem dX8_left_57 : decode cX8_left 57 = .ok (.aload_n 0, 1) := by decide +kernel
theorem dX8_left_58 : decode cX8_left 58 = .ok (.getfield 25, 3) := by decide +kernel
theorem dX8_left_61 : decode cX8_left 61 = .ok (.iconst 3, 1) := by decide +kernel
theorem dX8_left_62 : decode cX8_left 62 = .ok (.iload_n 3, 1) := by decide +kernel
theorem dX8_left_63 : decode cX8_left 63 = .ok (.imul, 1) := by decide +kernel
theorem dX8_left_64 : decode cX8_left 64 = .ok (.iconst 1, 1) := by decide +kernel
theorem dX8_left_65 : decode cX8_left 65 = .ok (.iadd, 1) := by decide +kernel
theorem dX8_left_66 : decode cX8_left 66 = .ok (.iaload, 1) := by decide +kernel
theorem dX8_left_67 : decode cX8_left 67 = .ok (.aload_n 0, 1) := by decide +kernel
theorem dX8_left_68 : decode cX8_left 68 = .ok (.getfield 25, 3) := by decide +kernel
theorem dX8_left_71 : decode cX8_left 71 = .ok (.iconst 3, 1) := by decide +kernel
theorem dX8_left_72 : decode cX8_left 72 = .ok (.iload_n 3, 1) := by decide +kernel
theorem dX8_left_73 : decode cX8_left 73 = .ok (.imul, 1) := by decide +kernel
theorem dX8_left_74 : decode cX8_left 74 = .ok (.iaload, 1) := by decide +kernel
theorem dX8_left_75 : decode cX8_left 75 = .ok (.isub, 1) := by decide +kernel
theorem dX8_left_76 : decode cX8_left 76 = .ok (.iconst 1, 1) := by decide +kernel
theorem dX8_left_77 : decode cX8_left 77 = .ok (.iadd, 1) := by decide +kernel
theorem dX8_left_78 : decode cX8_left 78 = .ok (.isub, 1) := by decide +kernel
theorem dX8_left_79 : decode cX8_left 79 = .ok (.istore_n 2, 1) := by decide +kernel
theorem dX8_left_80 : decode cX8_left 80 = .ok (.iinc 3 1, 3) := by decide +kernel
theorem dX8_left_83 : decode cX8_left 83 = .ok (.goto (-35), 3) := by decide +kernel
theorem dX8_left_86 : decode cX8_left 86 = .ok (.iload_n 2, 1) := by decide +kernel
theorem dX8_left_87 : decode cX8_left 87 = .ok (.ireturn, 1) := by decide +kernel
theorem dX8_clashes_0 : decode cX8_clashes 0 = .ok (.iconst 0, 1) := by decide +kernel
theorem dX8_clashes_1 : decode cX8_clashes 1 = .ok (.istore_n 1, 1) := by decide +kernel
theorem dX8_clashes_2 : decode cX8_clashes 2 = .ok (.iconst 0, 1) := by decide +kernel
theorem dX8_clashes_3 : decode cX8_clashes 3 = .ok (.istore_n 2, 1) := by decide +kernel
theorem dX8_clashes_4 : decode cX8_clashes 4 = .ok (.iload_n 2, 1) := by decide +kernel
theorem dX8_clashes_5 : decode cX8_clashes 5 = .ok (.aload_n 0, 1) := by decide +kernel
theorem dX8_clashes_6 : decode cX8_clashes 6 = .ok (.getfield 49, 3) := by decide +kernel
theorem dX8_clashes_9 : decode cX8_clashes 9 = .ok (.if_icmp .ge 39, 3) := by decide +kernel
theorem dX8_clashes_12 : decode cX8_clashes 12 = .ok (.iconst 0, 1) := by decide +kernel
theorem dX8_clashes_13 : decode cX8_clashes 13 = .ok (.istore_n 3, 1) := by decide +kernel
theorem dX8_clashes_14 : decode cX8_clashes 14 = .ok (.iload_n 3, 1) := by decide +kernel
theorem dX8_clashes_15 : decode cX8_clashes 15 = .ok (.iload_n 2, 1) := by decide +kernel
theorem dX8_clashes_16 : decode cX8_clashes 16 = .ok (.if_icmp .ge 26, 3) := by decide +kernel
theorem dX8_clashes_19 : decode cX8_clashes 19 = .ok (.iload_n 1, 1) := by decide +kernel
theorem dX8_clashes_20 : decode cX8_clashes 20 = .ok (.aload_n 0, 1) := by decide +kernel
theorem dX8_clashes_21 : decode cX8_clashes 21 = .ok (.iload_n 2, 1) := by decide +kernel
theorem dX8_clashes_22 : decode cX8_clashes 22 = .ok (.iload_n 3, 1) := by decide +kernel
theorem dX8_clashes_23 : decode cX8_clashes 23 = .ok (.invokevirtual 271, 3) := by decide +kernel
theorem dX8_clashes_26 : decode cX8_clashes 26 = .ok (.ifCond .eq 7, 3) := by decide +kernel
theorem dX8_clashes_29 : decode cX8_clashes 29 = .ok (.iconst 1, 1) := by decide +kernel
theorem dX8_clashes_30 : decode cX8_clashes 30 = .ok (.goto 4, 3) := by decide +kernel
theorem dX8_clashes_33 : decode cX8_clashes 33 = .ok (.iconst 0, 1) := by decide +kernel
theorem dX8_clashes_34 : decode cX8_clashes 34 = .ok (.iadd, 1) := by decide +kernel
theorem dX8_clashes_35 : decode cX8_clashes 35 = .ok (.istore_n 1, 1) := by decide +kernel
theorem dX8_clashes_36 : decode cX8_clashes 36 = .ok (.iinc 3 1, 3) := by decide +kernel
theorem dX8_clashes_39 : decode cX8_clashes 39 = .ok (.goto (-25), 3) := by decide +kernel
theorem dX8_clashes_42 : decode cX8_clashes 42 = .ok (.iinc 2 1, 3) := by decide +kernel
theorem dX8_clashes_45 : decode cX8_clashes 45 = .ok (.goto (-41), 3) := by decide +kernel
theorem dX8_clashes_48 : decode cX8_clashes 48 = .ok (.iload_n 1, 1) := by decide +kernel
theorem dX8_clashes_49 : decode cX8_clashes 49 = .ok (.ireturn, 1) := by decide +kernel
theorem dX8_homeless_0 : decode cX8_homeless 0 = .ok (.iconst 0, 1) := by decide +kernel
theorem dX8_homeless_1 : decode cX8_homeless 1 = .ok (.istore_n 1, 1) := by decide +kernel
theorem dX8_homeless_2 : decode cX8_homeless 2 = .ok (.iconst 0, 1) := by decide +kernel
theorem dX8_homeless_3 : decode cX8_homeless 3 = .ok (.istore_n 2, 1) := by decide +kernel
theorem dX8_homeless_4 : decode cX8_homeless 4 = .ok (.iload_n 2, 1) := by decide +kernel
theorem dX8_homeless_5 : decode cX8_homeless 5 = .ok (.bipush 8, 2) := by decide +kernel
theorem dX8_homeless_7 : decode cX8_homeless 7 = .ok (.if_icmp .ge 18, 3) := by decide +kernel
theorem dX8_homeless_10 : decode cX8_homeless 10 = .ok (.iload_n 1, 1) := by decide +kernel
theorem dX8_homeless_11 : decode cX8_homeless 11 = .ok (.aload_n 0, 1) := by decide +kernel
theorem dX8_homeless_12 : decode cX8_homeless 12 = .ok (.iconst (-1), 1) := by decide +kernel
theorem dX8_homeless_13 : decode cX8_homeless 13 = .ok (.iload_n 2, 1) := by decide +kernel
theorem dX8_homeless_14 : decode cX8_homeless 14 = .ok (.invokevirtual 245, 3) := by decide +kernel
theorem dX8_homeless_17 : decode cX8_homeless 17 = .ok (.iadd, 1) := by decide +kernel
theorem dX8_homeless_18 : decode cX8_homeless 18 = .ok (.istore_n 1, 1) := by decide +kernel
theorem dX8_homeless_19 : decode cX8_homeless 19 = .ok (.iinc 2 1, 3) := by decide +kernel
theorem dX8_homeless_22 : decode cX8_homeless 22 = .ok (.goto (-18), 3) := by decide +kernel
theorem dX8_homeless_25 : decode cX8_homeless 25 = .ok (.iload_n 1, 1) := by decide +kernel
theorem dX8_homeless_26 : decode cX8_homeless 26 = .ok (.ireturn, 1) := by decide +kernel
theorem dX8_filled_0 : decode cX8_filled 0 = .ok (.iconst 0, 1) := by decide +kernel
theorem dX8_filled_1 : decode cX8_filled 1 = .ok (.istore_n 1, 1) := by decide +kernel
theorem dX8_filled_2 : decode cX8_filled 2 = .ok (.iconst 0, 1) := by decide +kernel
theorem dX8_filled_3 : decode cX8_filled 3 = .ok (.istore_n 2, 1) := by decide +kernel
theorem dX8_filled_4 : decode cX8_filled 4 = .ok (.iload_n 2, 1) := by decide +kernel
theorem dX8_filled_5 : decode cX8_filled 5 = .ok (.bipush 8, 2) := by decide +kernel
theorem dX8_filled_7 : decode cX8_filled 7 = .ok (.if_icmp .ge 25, 3) := by decide +kernel
theorem dX8_filled_10 : decode cX8_filled 10 = .ok (.iload_n 1, 1) := by decide +kernel
theorem dX8_filled_11 : decode cX8_filled 11 = .ok (.aload_n 0, 1) := by decide +kernel
theorem dX8_filled_12 : decode cX8_filled 12 = .ok (.iload_n 2, 1) := by decide +kernel
theorem dX8_filled_13 : decode cX8_filled 13 = .ok (.invokevirtual 119, 3) := by decide +kernel
theorem dX8_filled_16 : decode cX8_filled 16 = .ok (.ifCond .le 7, 3) := by decide +kernel
theorem dX8_filled_19 : decode cX8_filled 19 = .ok (.iconst 1, 1) := by decide +kernel
theorem dX8_filled_20 : decode cX8_filled 20 = .ok (.goto 4, 3) := by decide +kernel
theorem dX8_filled_23 : decode cX8_filled 23 = .ok (.iconst 0, 1) := by decide +kernel
theorem dX8_filled_24 : decode cX8_filled 24 = .ok (.iadd, 1) := by decide +kernel
theorem dX8_filled_25 : decode cX8_filled 25 = .ok (.istore_n 1, 1) := by decide +kernel
theorem dX8_filled_26 : decode cX8_filled 26 = .ok (.iinc 2 1, 3) := by decide +kernel
theorem dX8_filled_29 : decode cX8_filled 29 = .ok (.goto (-25), 3) := by decide +kernel
theorem dX8_filled_32 : decode cX8_filled 32 = .ok (.iload_n 1, 1) := by decide +kernel
theorem dX8_filled_33 : decode cX8_filled 33 = .ok (.ireturn, 1) := by decide +kernel
theorem dX8_count_0 : decode cX8_count 0 = .ok (.iload_n 1, 1) := by decide +kernel
theorem dX8_count_1 : decode cX8_count 1 = .ok (.tableswitch 114 0 11 #[63, 63, 63, 63, 70, 75, 84, 89, 94, 99, 104, 109], 63) := by decide +kernel
theorem dX8_count_64 : decode cX8_count 64 = .ok (.aload_n 0, 1) := by decide +kernel
theorem dX8_count_65 : decode cX8_count 65 = .ok (.getfield 7, 3) := by decide +kernel
theorem dX8_count_68 : decode cX8_count 68 = .ok (.iload_n 1, 1) := by decide +kernel
theorem dX8_count_69 : decode cX8_count 69 = .ok (.iaload, 1) := by decide +kernel
theorem dX8_count_70 : decode cX8_count 70 = .ok (.ireturn, 1) := by decide +kernel
theorem dX8_count_71 : decode cX8_count 71 = .ok (.aload_n 0, 1) := by decide +kernel
theorem dX8_count_72 : decode cX8_count 72 = .ok (.getfield 49, 3) := by decide +kernel
theorem dX8_count_75 : decode cX8_count 75 = .ok (.ireturn, 1) := by decide +kernel
theorem dX8_count_76 : decode cX8_count 76 = .ok (.aload_n 0, 1) := by decide +kernel
theorem dX8_count_77 : decode cX8_count 77 = .ok (.iconst (-1), 1) := by decide +kernel
theorem dX8_count_78 : decode cX8_count 78 = .ok (.iconst 1, 1) := by decide +kernel
theorem dX8_count_79 : decode cX8_count 79 = .ok (.ldc 78, 2) := by decide +kernel
theorem dX8_count_81 : decode cX8_count 81 = .ok (.invokevirtual 79, 3) := by decide +kernel
theorem dX8_count_84 : decode cX8_count 84 = .ok (.ireturn, 1) := by decide +kernel
theorem dX8_count_85 : decode cX8_count 85 = .ok (.aload_n 0, 1) := by decide +kernel
theorem dX8_count_86 : decode cX8_count 86 = .ok (.invokevirtual 296, 3) := by decide +kernel
theorem dX8_count_89 : decode cX8_count 89 = .ok (.ireturn, 1) := by decide +kernel
theorem dX8_count_90 : decode cX8_count 90 = .ok (.aload_n 0, 1) := by decide +kernel
theorem dX8_count_91 : decode cX8_count 91 = .ok (.invokevirtual 299, 3) := by decide +kernel
theorem dX8_count_94 : decode cX8_count 94 = .ok (.ireturn, 1) := by decide +kernel
theorem dX8_count_95 : decode cX8_count 95 = .ok (.aload_n 0, 1) := by decide +kernel
theorem dX8_count_96 : decode cX8_count 96 = .ok (.invokevirtual 302, 3) := by decide +kernel
theorem dX8_count_99 : decode cX8_count 99 = .ok (.ireturn, 1) := by decide +kernel
theorem dX8_count_100 : decode cX8_count 100 = .ok (.aload_n 0, 1) := by decide +kernel
theorem dX8_count_101 : decode cX8_count 101 = .ok (.getfield 53, 3) := by decide +kernel
theorem dX8_count_104 : decode cX8_count 104 = .ok (.ireturn, 1) := by decide +kernel
theorem dX8_count_105 : decode cX8_count 105 = .ok (.aload_n 0, 1) := by decide +kernel
theorem dX8_count_106 : decode cX8_count 106 = .ok (.getfield 197, 3) := by decide +kernel
theorem dX8_count_109 : decode cX8_count 109 = .ok (.ireturn, 1) := by decide +kernel
theorem dX8_count_110 : decode cX8_count 110 = .ok (.aload_n 0, 1) := by decide +kernel
theorem dX8_count_111 : decode cX8_count 111 = .ok (.getfield 127, 3) := by decide +kernel
theorem dX8_count_114 : decode cX8_count 114 = .ok (.ireturn, 1) := by decide +kernel
theorem dX8_count_115 : decode cX8_count 115 = .ok (.bipush (-3), 2) := by decide +kernel
theorem dX8_count_117 : decode cX8_count 117 = .ok (.ireturn, 1) := by decide +kernel
theorem dJ6_bitCount_0f7a4_0 : decode cJ6_bitCount_0f7a4 0 = .ok (.iload_n 0, 1) := by decide +kernel
theorem dJ6_bitCount_0f7a4_1 : decode cJ6_bitCount_0f7a4 1 = .ok (.iload_n 0, 1) := by decide +kernel
theorem dJ6_bitCount_0f7a4_2 : decode cJ6_bitCount_0f7a4 2 = .ok (.iconst 1, 1) := by decide +kernel
theorem dJ6_bitCount_0f7a4_3 : decode cJ6_bitCount_0f7a4 3 = .ok (.iushr, 1) := by decide +kernel
theorem dJ6_bitCount_0f7a4_4 : decode cJ6_bitCount_0f7a4 4 = .ok (.ldc_w 265, 3) := by decide +kernel
theorem dJ6_bitCount_0f7a4_7 : decode cJ6_bitCount_0f7a4 7 = .ok (.iand, 1) := by decide +kernel
theorem dJ6_bitCount_0f7a4_8 : decode cJ6_bitCount_0f7a4 8 = .ok (.isub, 1) := by decide +kernel
theorem dJ6_bitCount_0f7a4_9 : decode cJ6_bitCount_0f7a4 9 = .ok (.istore_n 0, 1) := by decide +kernel
theorem dJ6_bitCount_0f7a4_10 : decode cJ6_bitCount_0f7a4 10 = .ok (.iload_n 0, 1) := by decide +kernel
theorem dJ6_bitCount_0f7a4_11 : decode cJ6_bitCount_0f7a4 11 = .ok (.ldc_w 266, 3) := by decide +kernel
theorem dJ6_bitCount_0f7a4_14 : decode cJ6_bitCount_0f7a4 14 = .ok (.iand, 1) := by decide +kernel
theorem dJ6_bitCount_0f7a4_15 : decode cJ6_bitCount_0f7a4 15 = .ok (.iload_n 0, 1) := by decide +kernel
theorem dJ6_bitCount_0f7a4_16 : decode cJ6_bitCount_0f7a4 16 = .ok (.iconst 2, 1) := by decide +kernel
theorem dJ6_bitCount_0f7a4_17 : decode cJ6_bitCount_0f7a4 17 = .ok (.iushr, 1) := by decide +kernel
theorem dJ6_bitCount_0f7a4_18 : decode cJ6_bitCount_0f7a4 18 = .ok (.ldc_w 266, 3) := by decide +kernel
theorem dJ6_bitCount_0f7a4_21 : decode cJ6_bitCount_0f7a4 21 = .ok (.iand, 1) := by decide +kernel
theorem dJ6_bitCount_0f7a4_22 : decode cJ6_bitCount_0f7a4 22 = .ok (.iadd, 1) := by decide +kernel
theorem dJ6_bitCount_0f7a4_23 : decode cJ6_bitCount_0f7a4 23 = .ok (.istore_n 0, 1) := by decide +kernel
theorem dJ6_bitCount_0f7a4_24 : decode cJ6_bitCount_0f7a4 24 = .ok (.iload_n 0, 1) := by decide +kernel
theorem dJ6_bitCount_0f7a4_25 : decode cJ6_bitCount_0f7a4 25 = .ok (.iload_n 0, 1) := by decide +kernel
theorem dJ6_bitCount_0f7a4_26 : decode cJ6_bitCount_0f7a4 26 = .ok (.iconst 4, 1) := by decide +kernel
theorem dJ6_bitCount_0f7a4_27 : decode cJ6_bitCount_0f7a4 27 = .ok (.iushr, 1) := by decide +kernel
theorem dJ6_bitCount_0f7a4_28 : decode cJ6_bitCount_0f7a4 28 = .ok (.iadd, 1) := by decide +kernel
theorem dJ6_bitCount_0f7a4_29 : decode cJ6_bitCount_0f7a4 29 = .ok (.ldc_w 267, 3) := by decide +kernel
theorem dJ6_bitCount_0f7a4_32 : decode cJ6_bitCount_0f7a4 32 = .ok (.iand, 1) := by decide +kernel
theorem dJ6_bitCount_0f7a4_33 : decode cJ6_bitCount_0f7a4 33 = .ok (.istore_n 0, 1) := by decide +kernel
theorem dJ6_bitCount_0f7a4_34 : decode cJ6_bitCount_0f7a4 34 = .ok (.iload_n 0, 1) := by decide +kernel
theorem dJ6_bitCount_0f7a4_35 : decode cJ6_bitCount_0f7a4 35 = .ok (.iload_n 0, 1) := by decide +kernel
theorem dJ6_bitCount_0f7a4_36 : decode cJ6_bitCount_0f7a4 36 = .ok (.bipush 8, 2) := by decide +kernel
theorem dJ6_bitCount_0f7a4_38 : decode cJ6_bitCount_0f7a4 38 = .ok (.iushr, 1) := by decide +kernel
theorem dJ6_bitCount_0f7a4_39 : decode cJ6_bitCount_0f7a4 39 = .ok (.iadd, 1) := by decide +kernel
theorem dJ6_bitCount_0f7a4_40 : decode cJ6_bitCount_0f7a4 40 = .ok (.istore_n 0, 1) := by decide +kernel
theorem dJ6_bitCount_0f7a4_41 : decode cJ6_bitCount_0f7a4 41 = .ok (.iload_n 0, 1) := by decide +kernel
theorem dJ6_bitCount_0f7a4_42 : decode cJ6_bitCount_0f7a4 42 = .ok (.iload_n 0, 1) := by decide +kernel
theorem dJ6_bitCount_0f7a4_43 : decode cJ6_bitCount_0f7a4 43 = .ok (.bipush 16, 2) := by decide +kernel
theorem dJ6_bitCount_0f7a4_45 : decode cJ6_bitCount_0f7a4 45 = .ok (.iushr, 1) := by decide +kernel
theorem dJ6_bitCount_0f7a4_46 : decode cJ6_bitCount_0f7a4 46 = .ok (.iadd, 1) := by decide +kernel
theorem dJ6_bitCount_0f7a4_47 : decode cJ6_bitCount_0f7a4 47 = .ok (.istore_n 0, 1) := by decide +kernel
theorem dJ6_bitCount_0f7a4_48 : decode cJ6_bitCount_0f7a4 48 = .ok (.iload_n 0, 1) := by decide +kernel
theorem dJ6_bitCount_0f7a4_49 : decode cJ6_bitCount_0f7a4 49 = .ok (.bipush 63, 2) := by decide +kernel
theorem dJ6_bitCount_0f7a4_51 : decode cJ6_bitCount_0f7a4 51 = .ok (.iand, 1) := by decide +kernel
theorem dJ6_bitCount_0f7a4_52 : decode cJ6_bitCount_0f7a4 52 = .ok (.ireturn, 1) := by decide +kernel
theorem dJ9_max_7cf53_0 : decode cJ9_max_7cf53 0 = .ok (.iload_n 0, 1) := by decide +kernel
theorem dJ9_max_7cf53_1 : decode cJ9_max_7cf53 1 = .ok (.iload_n 1, 1) := by decide +kernel
theorem dJ9_max_7cf53_2 : decode cJ9_max_7cf53 2 = .ok (.if_icmp .lt 7, 3) := by decide +kernel
theorem dJ9_max_7cf53_5 : decode cJ9_max_7cf53 5 = .ok (.iload_n 0, 1) := by decide +kernel
theorem dJ9_max_7cf53_6 : decode cJ9_max_7cf53 6 = .ok (.goto 4, 3) := by decide +kernel
theorem dJ9_max_7cf53_9 : decode cJ9_max_7cf53 9 = .ok (.iload_n 1, 1) := by decide +kernel
theorem dJ9_max_7cf53_10 : decode cJ9_max_7cf53 10 = .ok (.ireturn, 1) := by decide +kernel
theorem dJ9_min_7cf53_0 : decode cJ9_min_7cf53 0 = .ok (.iload_n 0, 1) := by decide +kernel
theorem dJ9_min_7cf53_1 : decode cJ9_min_7cf53 1 = .ok (.iload_n 1, 1) := by decide +kernel
theorem dJ9_min_7cf53_2 : decode cJ9_min_7cf53 2 = .ok (.if_icmp .gt 7, 3) := by decide +kernel
theorem dJ9_min_7cf53_5 : decode cJ9_min_7cf53 5 = .ok (.iload_n 0, 1) := by decide +kernel
theorem dJ9_min_7cf53_6 : decode cJ9_min_7cf53 6 = .ok (.goto 4, 3) := by decide +kernel
theorem dJ9_min_7cf53_9 : decode cJ9_min_7cf53 9 = .ok (.iload_n 1, 1) := by decide +kernel
theorem dJ9_min_7cf53_10 : decode cJ9_min_7cf53 10 = .ok (.ireturn, 1) := by decide +kernel
theorem dJ0_length_8abf5_0 : decode cJ0_length_8abf5 0 = .ok (.aload_n 0, 1) := by decide +kernel
theorem dJ0_length_8abf5_1 : decode cJ0_length_8abf5 1 = .ok (.getfield 9, 3) := by decide +kernel
theorem dJ0_length_8abf5_4 : decode cJ0_length_8abf5 4 = .ok (.arraylength, 1) := by decide +kernel
theorem dJ0_length_8abf5_5 : decode cJ0_length_8abf5 5 = .ok (.aload_n 0, 1) := by decide +kernel
theorem dJ0_length_8abf5_6 : decode cJ0_length_8abf5 6 = .ok (.invokevirtual 335, 3) := by decide +kernel
theorem dJ0_length_8abf5_9 : decode cJ0_length_8abf5 9 = .ok (.ishr, 1) := by decide +kernel
theorem dJ0_length_8abf5_10 : decode cJ0_length_8abf5 10 = .ok (.ireturn, 1) := by decide +kernel
theorem dJ0_charAt_5068e_0 : decode cJ0_charAt_5068e 0 = .ok (.aload_n 0, 1) := by decide +kernel
theorem dJ0_charAt_5068e_1 : decode cJ0_charAt_5068e 1 = .ok (.invokevirtual 492, 3) := by decide +kernel
theorem dJ0_charAt_5068e_4 : decode cJ0_charAt_5068e 4 = .ok (.ifCond .eq 12, 3) := by decide +kernel
theorem dJ0_charAt_5068e_7 : decode cJ0_charAt_5068e 7 = .ok (.aload_n 0, 1) := by decide +kernel
theorem dJ0_charAt_5068e_8 : decode cJ0_charAt_5068e 8 = .ok (.getfield 9, 3) := by decide +kernel
theorem dJ0_charAt_5068e_11 : decode cJ0_charAt_5068e 11 = .ok (.iload_n 1, 1) := by decide +kernel
theorem dJ0_charAt_5068e_12 : decode cJ0_charAt_5068e 12 = .ok (.invokestatic 495, 3) := by decide +kernel
theorem dJ0_charAt_5068e_15 : decode cJ0_charAt_5068e 15 = .ok (.ireturn, 1) := by decide +kernel
theorem dJ0_charAt_5068e_16 : decode cJ0_charAt_5068e 16 = .ok (.aload_n 0, 1) := by decide +kernel
theorem dJ0_charAt_5068e_17 : decode cJ0_charAt_5068e 17 = .ok (.getfield 9, 3) := by decide +kernel
theorem dJ0_charAt_5068e_20 : decode cJ0_charAt_5068e 20 = .ok (.iload_n 1, 1) := by decide +kernel
theorem dJ0_charAt_5068e_21 : decode cJ0_charAt_5068e 21 = .ok (.invokestatic 498, 3) := by decide +kernel
theorem dJ0_charAt_5068e_24 : decode cJ0_charAt_5068e 24 = .ok (.ireturn, 1) := by decide +kernel
theorem dJ0_coder_7d493_0 : decode cJ0_coder_7d493 0 = .ok (.getstatic 38, 3) := by decide +kernel
theorem dJ0_coder_7d493_3 : decode cJ0_coder_7d493 3 = .ok (.ifCond .eq 10, 3) := by decide +kernel
theorem dJ0_coder_7d493_6 : decode cJ0_coder_7d493 6 = .ok (.aload_n 0, 1) := by decide +kernel
theorem dJ0_coder_7d493_7 : decode cJ0_coder_7d493 7 = .ok (.getfield 15, 3) := by decide +kernel
theorem dJ0_coder_7d493_10 : decode cJ0_coder_7d493 10 = .ok (.goto 4, 3) := by decide +kernel
theorem dJ0_coder_7d493_13 : decode cJ0_coder_7d493 13 = .ok (.iconst 1, 1) := by decide +kernel
theorem dJ0_coder_7d493_14 : decode cJ0_coder_7d493 14 = .ok (.ireturn, 1) := by decide +kernel
theorem dJ0_isLatin1_aae02_0 : decode cJ0_isLatin1_aae02 0 = .ok (.getstatic 38, 3) := by decide +kernel
theorem dJ0_isLatin1_aae02_3 : decode cJ0_isLatin1_aae02 3 = .ok (.ifCond .eq 14, 3) := by decide +kernel
theorem dJ0_isLatin1_aae02_6 : decode cJ0_isLatin1_aae02 6 = .ok (.aload_n 0, 1) := by decide +kernel
theorem dJ0_isLatin1_aae02_7 : decode cJ0_isLatin1_aae02 7 = .ok (.getfield 15, 3) := by decide +kernel
theorem dJ0_isLatin1_aae02_10 : decode cJ0_isLatin1_aae02 10 = .ok (.ifCond .ne 7, 3) := by decide +kernel
theorem dJ0_isLatin1_aae02_13 : decode cJ0_isLatin1_aae02 13 = .ok (.iconst 1, 1) := by decide +kernel
theorem dJ0_isLatin1_aae02_14 : decode cJ0_isLatin1_aae02 14 = .ok (.goto 4, 3) := by decide +kernel
theorem dJ0_isLatin1_aae02_17 : decode cJ0_isLatin1_aae02 17 = .ok (.iconst 0, 1) := by decide +kernel
theorem dJ0_isLatin1_aae02_18 : decode cJ0_isLatin1_aae02 18 = .ok (.ireturn, 1) := by decide +kernel
theorem dJ0_checkIndex_df160_0 : decode cJ0_checkIndex_df160 0 = .ok (.iload_n 0, 1) := by decide +kernel
theorem dJ0_checkIndex_df160_1 : decode cJ0_checkIndex_df160 1 = .ok (.iload_n 1, 1) := by decide +kernel
theorem dJ0_checkIndex_df160_2 : decode cJ0_checkIndex_df160 2 = .ok (.getstatic 1053, 3) := by decide +kernel
theorem dJ0_checkIndex_df160_5 : decode cJ0_checkIndex_df160 5 = .ok (.invokestatic 1059, 3) := by decide +kernel
theorem dJ0_checkIndex_df160_8 : decode cJ0_checkIndex_df160 8 = .ok (.pop, 1) := by decide +kernel
theorem dJ0_checkIndex_df160_9 : decode cJ0_checkIndex_df160 9 = .ok (.return_, 1) := by decide +kernel
theorem dJ1_charAt_3b067_0 : decode cJ1_charAt_3b067 0 = .ok (.iload_n 1, 1) := by decide +kernel
theorem dJ1_charAt_3b067_1 : decode cJ1_charAt_3b067 1 = .ok (.aload_n 0, 1) := by decide +kernel
theorem dJ1_charAt_3b067_2 : decode cJ1_charAt_3b067 2 = .ok (.arraylength, 1) := by decide +kernel
theorem dJ1_charAt_3b067_3 : decode cJ1_charAt_3b067 3 = .ok (.invokestatic 9, 3) := by decide +kernel
theorem dJ1_charAt_3b067_6 : decode cJ1_charAt_3b067 6 = .ok (.aload_n 0, 1) := by decide +kernel
theorem dJ1_charAt_3b067_7 : decode cJ1_charAt_3b067 7 = .ok (.iload_n 1, 1) := by decide +kernel
theorem dJ1_charAt_3b067_8 : decode cJ1_charAt_3b067 8 = .ok (.baload, 1) := by decide +kernel
theorem dJ1_charAt_3b067_9 : decode cJ1_charAt_3b067 9 = .ok (.sipush 255, 3) := by decide +kernel
theorem dJ1_charAt_3b067_12 : decode cJ1_charAt_3b067 12 = .ok (.iand, 1) := by decide +kernel
theorem dJ1_charAt_3b067_13 : decode cJ1_charAt_3b067 13 = .ok (.i2c, 1) := by decide +kernel
theorem dJ1_charAt_3b067_14 : decode cJ1_charAt_3b067 14 = .ok (.ireturn, 1) := by decide +kernel
theorem dJ2_getChar_3b067_0 : decode cJ2_getChar_3b067 0 = .ok (.getstatic 44, 3) := by decide +kernel
theorem dJ2_getChar_3b067_3 : decode cJ2_getChar_3b067 3 = .ok (.ifCond .ne 25, 3) := by decide +kernel
theorem dJ2_getChar_3b067_6 : decode cJ2_getChar_3b067 6 = .ok (.iload_n 1, 1) := by decide +kernel
theorem dJ2_getChar_3b067_7 : decode cJ2_getChar_3b067 7 = .ok (.ifCond .lt 11, 3) := by decide +kernel
theorem dJ2_getChar_3b067_10 : decode cJ2_getChar_3b067 10 = .ok (.iload_n 1, 1) := by decide +kernel
theorem dJ2_getChar_3b067_11 : decode cJ2_getChar_3b067 11 = .ok (.aload_n 0, 1) := by decide +kernel
theorem dJ2_getChar_3b067_12 : decode cJ2_getChar_3b067 12 = .ok (.invokestatic 48, 3) := by decide +kernel
theorem dJ2_getChar_3b067_15 : decode cJ2_getChar_3b067 15 = .ok (.if_icmp .lt 13, 3) := by decide +kernel
theorem dJ2_getChar_3b067_18 : decode cJ2_getChar_3b067 18 = .ok (.new 52, 3) := by decide +kernel
theorem dJ2_getChar_3b067_21 : decode cJ2_getChar_3b067 21 = .ok (.dup, 1) := by decide +kernel
theorem dJ2_getChar_3b067_22 : decode cJ2_getChar_3b067 22 = .ok (.ldc 54, 2) := by decide +kernel
theorem dJ2_getChar_3b067_24 : decode cJ2_getChar_3b067 24 = .ok (.invokespecial 56, 3) := by decide +kernel
theorem dJ2_getChar_3b067_27 : decode cJ2_getChar_3b067 27 = .ok (.athrow, 1) := by decide +kernel
theorem dJ2_getChar_3b067_28 : decode cJ2_getChar_3b067 28 = .ok (.iload_n 1, 1) := by decide +kernel
theorem dJ2_getChar_3b067_29 : decode cJ2_getChar_3b067 29 = .ok (.iconst 1, 1) := by decide +kernel
theorem dJ2_getChar_3b067_30 : decode cJ2_getChar_3b067 30 = .ok (.ishl, 1) := by decide +kernel
theorem dJ2_getChar_3b067_31 : decode cJ2_getChar_3b067 31 = .ok (.istore_n 1, 1) := by decide +kernel
theorem dJ2_getChar_3b067_32 : decode cJ2_getChar_3b067 32 = .ok (.aload_n 0, 1) := by decide +kernel
theorem dJ2_getChar_3b067_33 : decode cJ2_getChar_3b067 33 = .ok (.iload_n 1, 1) := by decide +kernel
theorem dJ2_getChar_3b067_34 : decode cJ2_getChar_3b067 34 = .ok (.iinc 1 1, 3) := by decide +kernel
theorem dJ2_getChar_3b067_37 : decode cJ2_getChar_3b067 37 = .ok (.baload, 1) := by decide +kernel
theorem dJ2_getChar_3b067_38 : decode cJ2_getChar_3b067 38 = .ok (.sipush 255, 3) := by decide +kernel
theorem dJ2_getChar_3b067_41 : decode cJ2_getChar_3b067 41 = .ok (.iand, 1) := by decide +kernel
theorem dJ2_getChar_3b067_42 : decode cJ2_getChar_3b067 42 = .ok (.getstatic 59, 3) := by decide +kernel
theorem dJ2_getChar_3b067_45 : decode cJ2_getChar_3b067 45 = .ok (.ishl, 1) := by decide +kernel
theorem dJ2_getChar_3b067_46 : decode cJ2_getChar_3b067 46 = .ok (.aload_n 0, 1) := by decide +kernel
theorem dJ2_getChar_3b067_47 : decode cJ2_getChar_3b067 47 = .ok (.iload_n 1, 1) := by decide +kernel
theorem dJ2_getChar_3b067_48 : decode cJ2_getChar_3b067 48 = .ok (.baload, 1) := by decide +kernel
theorem dJ2_getChar_3b067_49 : decode cJ2_getChar_3b067 49 = .ok (.sipush 255, 3) := by decide +kernel
theorem dJ2_getChar_3b067_52 : decode cJ2_getChar_3b067 52 = .ok (.iand, 1) := by decide +kernel
theorem dJ2_getChar_3b067_53 : decode cJ2_getChar_3b067 53 = .ok (.getstatic 63, 3) := by decide +kernel
theorem dJ2_getChar_3b067_56 : decode cJ2_getChar_3b067 56 = .ok (.ishl, 1) := by decide +kernel
theorem dJ2_getChar_3b067_57 : decode cJ2_getChar_3b067 57 = .ok (.ior, 1) := by decide +kernel
theorem dJ2_getChar_3b067_58 : decode cJ2_getChar_3b067 58 = .ok (.i2c, 1) := by decide +kernel
theorem dJ2_getChar_3b067_59 : decode cJ2_getChar_3b067 59 = .ok (.ireturn, 1) := by decide +kernel
theorem dJ2_length_9d52b_0 : decode cJ2_length_9d52b 0 = .ok (.aload_n 0, 1) := by decide +kernel
theorem dJ2_length_9d52b_1 : decode cJ2_length_9d52b 1 = .ok (.arraylength, 1) := by decide +kernel
theorem dJ2_length_9d52b_2 : decode cJ2_length_9d52b 2 = .ok (.iconst 1, 1) := by decide +kernel
theorem dJ2_length_9d52b_3 : decode cJ2_length_9d52b 3 = .ok (.ishr, 1) := by decide +kernel
theorem dJ2_length_9d52b_4 : decode cJ2_length_9d52b 4 = .ok (.ireturn, 1) := by decide +kernel
theorem dJ2_charAt_3b067_0 : decode cJ2_charAt_3b067 0 = .ok (.iload_n 1, 1) := by decide +kernel
theorem dJ2_charAt_3b067_1 : decode cJ2_charAt_3b067 1 = .ok (.aload_n 0, 1) := by decide +kernel
theorem dJ2_charAt_3b067_2 : decode cJ2_charAt_3b067 2 = .ok (.invokestatic 67, 3) := by decide +kernel
theorem dJ2_charAt_3b067_5 : decode cJ2_charAt_3b067 5 = .ok (.aload_n 0, 1) := by decide +kernel
theorem dJ2_charAt_3b067_6 : decode cJ2_charAt_3b067 6 = .ok (.iload_n 1, 1) := by decide +kernel
theorem dJ2_charAt_3b067_7 : decode cJ2_charAt_3b067 7 = .ok (.invokestatic 71, 3) := by decide +kernel
theorem dJ2_charAt_3b067_10 : decode cJ2_charAt_3b067 10 = .ok (.ireturn, 1) := by decide +kernel
theorem dJ2_checkIndex_2214a_0 : decode cJ2_checkIndex_2214a 0 = .ok (.iload_n 0, 1) := by decide +kernel
theorem dJ2_checkIndex_2214a_1 : decode cJ2_checkIndex_2214a 1 = .ok (.aload_n 1, 1) := by decide +kernel
theorem dJ2_checkIndex_2214a_2 : decode cJ2_checkIndex_2214a 2 = .ok (.invokestatic 48, 3) := by decide +kernel
theorem dJ2_checkIndex_2214a_5 : decode cJ2_checkIndex_2214a 5 = .ok (.invokestatic 414, 3) := by decide +kernel
theorem dJ2_checkIndex_2214a_8 : decode cJ2_checkIndex_2214a 8 = .ok (.return_, 1) := by decide +kernel
theorem dJ3_checkIndex_8e157_0 : decode cJ3_checkIndex_8e157 0 = .ok (.iload_n 0, 1) := by decide +kernel
theorem dJ3_checkIndex_8e157_1 : decode cJ3_checkIndex_8e157 1 = .ok (.ifCond .lt 8, 3) := by decide +kernel
theorem dJ3_checkIndex_8e157_4 : decode cJ3_checkIndex_8e157 4 = .ok (.iload_n 0, 1) := by decide +kernel
theorem dJ3_checkIndex_8e157_5 : decode cJ3_checkIndex_8e157 5 = .ok (.iload_n 1, 1) := by decide +kernel
theorem dJ3_checkIndex_8e157_6 : decode cJ3_checkIndex_8e157 6 = .ok (.if_icmp .lt 10, 3) := by decide +kernel
theorem dJ3_checkIndex_8e157_9 : decode cJ3_checkIndex_8e157 9 = .ok (.aload_n 2, 1) := by decide +kernel
theorem dJ3_checkIndex_8e157_10 : decode cJ3_checkIndex_8e157 10 = .ok (.iload_n 0, 1) := by decide +kernel
theorem dJ3_checkIndex_8e157_11 : decode cJ3_checkIndex_8e157 11 = .ok (.iload_n 1, 1) := by decide +kernel
theorem dJ3_checkIndex_8e157_12 : decode cJ3_checkIndex_8e157 12 = .ok (.invokestatic 95, 3) := by decide +kernel
theorem dJ3_checkIndex_8e157_15 : decode cJ3_checkIndex_8e157 15 = .ok (.athrow, 1) := by decide +kernel
theorem dJ3_checkIndex_8e157_16 : decode cJ3_checkIndex_8e157 16 = .ok (.iload_n 0, 1) := by decide +kernel
theorem dJ3_checkIndex_8e157_17 : decode cJ3_checkIndex_8e157 17 = .ok (.ireturn, 1) := by decide +kernel
theorem dL_law_0 : decode cL_law 0 = .ok (.new 7, 3) := by decide +kernel
theorem dL_law_3 : decode cL_law 3 = .ok (.dup, 1) := by decide +kernel
theorem dL_law_4 : decode cL_law 4 = .ok (.invokespecial 9, 3) := by decide +kernel
theorem dL_law_7 : decode cL_law 7 = .ok (.astore_n 1, 1) := by decide +kernel
theorem dL_law_8 : decode cL_law 8 = .ok (.new 10, 3) := by decide +kernel
theorem dL_law_11 : decode cL_law 11 = .ok (.dup, 1) := by decide +kernel
theorem dL_law_12 : decode cL_law 12 = .ok (.invokespecial 12, 3) := by decide +kernel
theorem dL_law_15 : decode cL_law 15 = .ok (.astore_n 2, 1) := by decide +kernel
theorem dL_law_16 : decode cL_law 16 = .ok (.iconst 0, 1) := by decide +kernel
theorem dL_law_17 : decode cL_law 17 = .ok (.istore_n 3, 1) := by decide +kernel
theorem dL_law_18 : decode cL_law 18 = .ok (.iload_n 3, 1) := by decide +kernel
theorem dL_law_19 : decode cL_law 19 = .ok (.aload_n 0, 1) := by decide +kernel
theorem dL_law_20 : decode cL_law 20 = .ok (.arraylength, 1) := by decide +kernel
theorem dL_law_21 : decode cL_law 21 = .ok (.iconst 4, 1) := by decide +kernel
theorem dL_law_22 : decode cL_law 22 = .ok (.isub, 1) := by decide +kernel
theorem dL_law_23 : decode cL_law 23 = .ok (.if_icmp .gt 991, 3) := by decide +kernel
theorem dL_law_26 : decode cL_law 26 = .ok (.aload_n 0, 1) := by decide +kernel
theorem dL_law_27 : decode cL_law 27 = .ok (.iload_n 3, 1) := by decide +kernel
theorem dL_law_28 : decode cL_law 28 = .ok (.iaload, 1) := by decide +kernel
theorem dL_law_29 : decode cL_law 29 = .ok (.bipush 31, 2) := by decide +kernel
theorem dL_law_31 : decode cL_law 31 = .ok (.iand, 1) := by decide +kernel
theorem dL_law_32 : decode cL_law 32 = .ok (.tableswitch 976 0 29 #[136, 159, 172, 185, 198, 241, 274, 317, 350, 383, 406, 429, 442, 475, 508, 541, 584, 607, 630, 663, 696, 729, 772, 785, 818, 841, 864, 887, 930, 953], 136) := by decide +kernel
theorem dL_law_168 : decode cL_law 168 = .ok (.aload_n 1, 1) := by decide +kernel
theorem dL_law_169 : decode cL_law 169 = .ok (.aload_n 0, 1) := by decide +kernel
theorem dL_law_170 : decode cL_law 170 = .ok (.iload_n 3, 1) := by decide +kernel
theorem dL_law_171 : decode cL_law 171 = .ok (.iconst 1, 1) := by decide +kernel
theorem dL_law_172 : decode cL_law 172 = .ok (.iadd, 1) := by decide +kernel
theorem dL_law_173 : decode cL_law 173 = .ok (.iaload, 1) := by decide +kernel
theorem dL_law_174 : decode cL_law 174 = .ok (.invokevirtual 13, 3) := by decide +kernel
theorem dL_law_177 : decode cL_law 177 = .ok (.aload_n 2, 1) := by decide +kernel
theorem dL_law_178 : decode cL_law 178 = .ok (.aload_n 0, 1) := by decide +kernel
theorem dL_law_179 : decode cL_law 179 = .ok (.iload_n 3, 1) := by decide +kernel
theorem dL_law_180 : decode cL_law 180 = .ok (.iconst 1, 1) := by decide +kernel
theorem dL_law_181 : decode cL_law 181 = .ok (.iadd, 1) := by decide +kernel
theorem dL_law_182 : decode cL_law 182 = .ok (.iaload, 1) := by decide +kernel
theorem dL_law_183 : decode cL_law 183 = .ok (.invokevirtual 17, 3) := by decide +kernel
theorem dL_law_186 : decode cL_law 186 = .ok (.if_icmp .eq 822, 3) := by decide +kernel
theorem dL_law_189 : decode cL_law 189 = .ok (.iconst 0, 1) := by decide +kernel
theorem dL_law_190 : decode cL_law 190 = .ok (.ireturn, 1) := by decide +kernel
theorem dL_law_191 : decode cL_law 191 = .ok (.aload_n 1, 1) := by decide +kernel
theorem dL_law_192 : decode cL_law 192 = .ok (.invokevirtual 18, 3) := by decide +kernel
theorem dL_law_195 : decode cL_law 195 = .ok (.aload_n 2, 1) := by decide +kernel
theorem dL_law_196 : decode cL_law 196 = .ok (.invokevirtual 22, 3) := by decide +kernel
theorem dL_law_199 : decode cL_law 199 = .ok (.if_icmp .eq 809, 3) := by decide +kernel
theorem dL_law_202 : decode cL_law 202 = .ok (.iconst 0, 1) := by decide +kernel
theorem dL_law_203 : decode cL_law 203 = .ok (.ireturn, 1) := by decide +kernel
theorem dL_law_204 : decode cL_law 204 = .ok (.aload_n 1, 1) := by decide +kernel
theorem dL_law_205 : decode cL_law 205 = .ok (.invokevirtual 23, 3) := by decide +kernel
theorem dL_law_208 : decode cL_law 208 = .ok (.aload_n 2, 1) := by decide +kernel
theorem dL_law_209 : decode cL_law 209 = .ok (.invokevirtual 26, 3) := by decide +kernel
theorem dL_law_212 : decode cL_law 212 = .ok (.if_icmp .eq 796, 3) := by decide +kernel
theorem dL_law_215 : decode cL_law 215 = .ok (.iconst 0, 1) := by decide +kernel
theorem dL_law_216 : decode cL_law 216 = .ok (.ireturn, 1) := by decide +kernel
theorem dL_law_217 : decode cL_law 217 = .ok (.aload_n 1, 1) := by decide +kernel
theorem dL_law_218 : decode cL_law 218 = .ok (.invokevirtual 27, 3) := by decide +kernel
theorem dL_law_221 : decode cL_law 221 = .ok (.aload_n 2, 1) := by decide +kernel
theorem dL_law_222 : decode cL_law 222 = .ok (.invokevirtual 30, 3) := by decide +kernel
theorem dL_law_225 : decode cL_law 225 = .ok (.if_icmp .eq 783, 3) := by decide +kernel
theorem dL_law_228 : decode cL_law 228 = .ok (.iconst 0, 1) := by decide +kernel
theorem dL_law_229 : decode cL_law 229 = .ok (.ireturn, 1) := by decide +kernel
theorem dL_law_230 : decode cL_law 230 = .ok (.aload_n 1, 1) := by decide +kernel
theorem dL_law_231 : decode cL_law 231 = .ok (.aload_n 0, 1) := by decide +kernel
theorem dL_law_232 : decode cL_law 232 = .ok (.iload_n 3, 1) := by decide +kernel
theorem dL_law_233 : decode cL_law 233 = .ok (.iconst 1, 1) := by decide +kernel
theorem dL_law_234 : decode cL_law 234 = .ok (.iadd, 1) := by decide +kernel
theorem dL_law_235 : decode cL_law 235 = .ok (.iaload, 1) := by decide +kernel
theorem dL_law_236 : decode cL_law 236 = .ok (.aload_n 0, 1) := by decide +kernel
theorem dL_law_237 : decode cL_law 237 = .ok (.iload_n 3, 1) := by decide +kernel
theorem dL_law_238 : decode cL_law 238 = .ok (.iconst 2, 1) := by decide +kernel
theorem dL_law_239 : decode cL_law 239 = .ok (.iadd, 1) := by decide +kernel
theorem dL_law_240 : decode cL_law 240 = .ok (.iaload, 1) := by decide +kernel
theorem dL_law_241 : decode cL_law 241 = .ok (.aload_n 0, 1) := by decide +kernel
theorem dL_law_242 : decode cL_law 242 = .ok (.iload_n 3, 1) := by decide +kernel
theorem dL_law_243 : decode cL_law 243 = .ok (.iconst 3, 1) := by decide +kernel
theorem dL_law_244 : decode cL_law 244 = .ok (.iadd, 1) := by decide +kernel
theorem dL_law_245 : decode cL_law 245 = .ok (.iaload, 1) := by decide +kernel
theorem dL_law_246 : decode cL_law 246 = .ok (.invokevirtual 31, 3) := by decide +kernel
theorem dL_law_249 : decode cL_law 249 = .ok (.aload_n 2, 1) := by decide +kernel
theorem dL_law_250 : decode cL_law 250 = .ok (.aload_n 0, 1) := by decide +kernel
theorem dL_law_251 : decode cL_law 251 = .ok (.iload_n 3, 1) := by decide +kernel
theorem dL_law_252 : decode cL_law 252 = .ok (.iconst 1, 1) := by decide +kernel
theorem dL_law_253 : decode cL_law 253 = .ok (.iadd, 1) := by decide +kernel
theorem dL_law_254 : decode cL_law 254 = .ok (.iaload, 1) := by decide +kernel
theorem dL_law_255 : decode cL_law 255 = .ok (.aload_n 0, 1) := by decide +kernel
theorem dL_law_256 : decode cL_law 256 = .ok (.iload_n 3, 1) := by decide +kernel
theorem dL_law_257 : decode cL_law 257 = .ok (.iconst 2, 1) := by decide +kernel
theorem dL_law_258 : decode cL_law 258 = .ok (.iadd, 1) := by decide +kernel
theorem dL_law_259 : decode cL_law 259 = .ok (.iaload, 1) := by decide +kernel
theorem dL_law_260 : decode cL_law 260 = .ok (.aload_n 0, 1) := by decide +kernel
theorem dL_law_261 : decode cL_law 261 = .ok (.iload_n 3, 1) := by decide +kernel
theorem dL_law_262 : decode cL_law 262 = .ok (.iconst 3, 1) := by decide +kernel
theorem dL_law_263 : decode cL_law 263 = .ok (.iadd, 1) := by decide +kernel
theorem dL_law_264 : decode cL_law 264 = .ok (.iaload, 1) := by decide +kernel
theorem dL_law_265 : decode cL_law 265 = .ok (.invokevirtual 35, 3) := by decide +kernel
theorem dL_law_268 : decode cL_law 268 = .ok (.if_icmp .eq 740, 3) := by decide +kernel
theorem dL_law_271 : decode cL_law 271 = .ok (.iconst 0, 1) := by decide +kernel
theorem dL_law_272 : decode cL_law 272 = .ok (.ireturn, 1) := by decide +kernel
theorem dL_law_273 : decode cL_law 273 = .ok (.aload_n 1, 1) := by decide +kernel
theorem dL_law_274 : decode cL_law 274 = .ok (.aload_n 0, 1) := by decide +kernel
theorem dL_law_275 : decode cL_law 275 = .ok (.iload_n 3, 1) := by decide +kernel
theorem dL_law_276 : decode cL_law 276 = .ok (.iconst 1, 1) := by decide +kernel
theorem dL_law_277 : decode cL_law 277 = .ok (.iadd, 1) := by decide +kernel
theorem dL_law_278 : decode cL_law 278 = .ok (.iaload, 1) := by decide +kernel
theorem dL_law_279 : decode cL_law 279 = .ok (.aload_n 0, 1) := by decide +kernel
theorem dL_law_280 : decode cL_law 280 = .ok (.iload_n 3, 1) := by decide +kernel
theorem dL_law_281 : decode cL_law 281 = .ok (.iconst 2, 1) := by decide +kernel
theorem dL_law_282 : decode cL_law 282 = .ok (.iadd, 1) := by decide +kernel
theorem dL_law_283 : decode cL_law 283 = .ok (.iaload, 1) := by decide +kernel
theorem dL_law_284 : decode cL_law 284 = .ok (.invokevirtual 36, 3) := by decide +kernel
theorem dL_law_287 : decode cL_law 287 = .ok (.aload_n 2, 1) := by decide +kernel
theorem dL_law_288 : decode cL_law 288 = .ok (.aload_n 0, 1) := by decide +kernel
theorem dL_law_289 : decode cL_law 289 = .ok (.iload_n 3, 1) := by decide +kernel
theorem dL_law_290 : decode cL_law 290 = .ok (.iconst 1, 1) := by decide +kernel
theorem dL_law_291 : decode cL_law 291 = .ok (.iadd, 1) := by decide +kernel
theorem dL_law_292 : decode cL_law 292 = .ok (.iaload, 1) := by decide +kernel
theorem dL_law_293 : decode cL_law 293 = .ok (.aload_n 0, 1) := by decide +kernel
theorem dL_law_294 : decode cL_law 294 = .ok (.iload_n 3, 1) := by decide +kernel
theorem dL_law_295 : decode cL_law 295 = .ok (.iconst 2, 1) := by decide +kernel
theorem dL_law_296 : decode cL_law 296 = .ok (.iadd, 1) := by decide +kernel
theorem dL_law_297 : decode cL_law 297 = .ok (.iaload, 1) := by decide +kernel
theorem dL_law_298 : decode cL_law 298 = .ok (.invokevirtual 40, 3) := by decide +kernel
theorem dL_law_301 : decode cL_law 301 = .ok (.if_icmp .eq 707, 3) := by decide +kernel
theorem dL_law_304 : decode cL_law 304 = .ok (.iconst 0, 1) := by decide +kernel
theorem dL_law_305 : decode cL_law 305 = .ok (.ireturn, 1) := by decide +kernel
theorem dL_law_306 : decode cL_law 306 = .ok (.aload_n 1, 1) := by decide +kernel
theorem dL_law_307 : decode cL_law 307 = .ok (.aload_n 0, 1) := by decide +kernel
theorem dL_law_308 : decode cL_law 308 = .ok (.iload_n 3, 1) := by decide +kernel
theorem dL_law_309 : decode cL_law 309 = .ok (.iconst 1, 1) := by decide +kernel
theorem dL_law_310 : decode cL_law 310 = .ok (.iadd, 1) := by decide +kernel
theorem dL_law_311 : decode cL_law 311 = .ok (.iaload, 1) := by decide +kernel
theorem dL_law_312 : decode cL_law 312 = .ok (.aload_n 0, 1) := by decide +kernel
theorem dL_law_313 : decode cL_law 313 = .ok (.iload_n 3, 1) := by decide +kernel
theorem dL_law_314 : decode cL_law 314 = .ok (.iconst 2, 1) := by decide +kernel
theorem dL_law_315 : decode cL_law 315 = .ok (.iadd, 1) := by decide +kernel
theorem dL_law_316 : decode cL_law 316 = .ok (.iaload, 1) := by decide +kernel
theorem dL_law_317 : decode cL_law 317 = .ok (.aload_n 0, 1) := by decide +kernel
theorem dL_law_318 : decode cL_law 318 = .ok (.iload_n 3, 1) := by decide +kernel
theorem dL_law_319 : decode cL_law 319 = .ok (.iconst 3, 1) := by decide +kernel
theorem dL_law_320 : decode cL_law 320 = .ok (.iadd, 1) := by decide +kernel
theorem dL_law_321 : decode cL_law 321 = .ok (.iaload, 1) := by decide +kernel
theorem dL_law_322 : decode cL_law 322 = .ok (.invokevirtual 41, 3) := by decide +kernel
theorem dL_law_325 : decode cL_law 325 = .ok (.aload_n 2, 1) := by decide +kernel
theorem dL_law_326 : decode cL_law 326 = .ok (.aload_n 0, 1) := by decide +kernel
theorem dL_law_327 : decode cL_law 327 = .ok (.iload_n 3, 1) := by decide +kernel
theorem dL_law_328 : decode cL_law 328 = .ok (.iconst 1, 1) := by decide +kernel
theorem dL_law_329 : decode cL_law 329 = .ok (.iadd, 1) := by decide +kernel
theorem dL_law_330 : decode cL_law 330 = .ok (.iaload, 1) := by decide +kernel
theorem dL_law_331 : decode cL_law 331 = .ok (.aload_n 0, 1) := by decide +kernel
theorem dL_law_332 : decode cL_law 332 = .ok (.iload_n 3, 1) := by decide +kernel
theorem dL_law_333 : decode cL_law 333 = .ok (.iconst 2, 1) := by decide +kernel
theorem dL_law_334 : decode cL_law 334 = .ok (.iadd, 1) := by decide +kernel
theorem dL_law_335 : decode cL_law 335 = .ok (.iaload, 1) := by decide +kernel
theorem dL_law_336 : decode cL_law 336 = .ok (.aload_n 0, 1) := by decide +kernel
theorem dL_law_337 : decode cL_law 337 = .ok (.iload_n 3, 1) := by decide +kernel
theorem dL_law_338 : decode cL_law 338 = .ok (.iconst 3, 1) := by decide +kernel
theorem dL_law_339 : decode cL_law 339 = .ok (.iadd, 1) := by decide +kernel
theorem dL_law_340 : decode cL_law 340 = .ok (.iaload, 1) := by decide +kernel
theorem dL_law_341 : decode cL_law 341 = .ok (.invokevirtual 44, 3) := by decide +kernel
theorem dL_law_344 : decode cL_law 344 = .ok (.if_icmp .eq 664, 3) := by decide +kernel
theorem dL_law_347 : decode cL_law 347 = .ok (.iconst 0, 1) := by decide +kernel
theorem dL_law_348 : decode cL_law 348 = .ok (.ireturn, 1) := by decide +kernel
theorem dL_law_349 : decode cL_law 349 = .ok (.aload_n 1, 1) := by decide +kernel
theorem dL_law_350 : decode cL_law 350 = .ok (.aload_n 0, 1) := by decide +kernel
theorem dL_law_351 : decode cL_law 351 = .ok (.iload_n 3, 1) := by decide +kernel
theorem dL_law_352 : decode cL_law 352 = .ok (.iconst 1, 1) := by decide +kernel
theorem dL_law_353 : decode cL_law 353 = .ok (.iadd, 1) := by decide +kernel
theorem dL_law_354 : decode cL_law 354 = .ok (.iaload, 1) := by decide +kernel
theorem dL_law_355 : decode cL_law 355 = .ok (.aload_n 0, 1) := by decide +kernel
theorem dL_law_356 : decode cL_law 356 = .ok (.iload_n 3, 1) := by decide +kernel
theorem dL_law_357 : decode cL_law 357 = .ok (.iconst 2, 1) := by decide +kernel
theorem dL_law_358 : decode cL_law 358 = .ok (.iadd, 1) := by decide +kernel
theorem dL_law_359 : decode cL_law 359 = .ok (.iaload, 1) := by decide +kernel
theorem dL_law_360 : decode cL_law 360 = .ok (.invokevirtual 45, 3) := by decide +kernel
theorem dL_law_363 : decode cL_law 363 = .ok (.aload_n 2, 1) := by decide +kernel
theorem dL_law_364 : decode cL_law 364 = .ok (.aload_n 0, 1) := by decide +kernel
theorem dL_law_365 : decode cL_law 365 = .ok (.iload_n 3, 1) := by decide +kernel
theorem dL_law_366 : decode cL_law 366 = .ok (.iconst 1, 1) := by decide +kernel
theorem dL_law_367 : decode cL_law 367 = .ok (.iadd, 1) := by decide +kernel
theorem dL_law_368 : decode cL_law 368 = .ok (.iaload, 1) := by decide +kernel
theorem dL_law_369 : decode cL_law 369 = .ok (.aload_n 0, 1) := by decide +kernel
theorem dL_law_370 : decode cL_law 370 = .ok (.iload_n 3, 1) := by decide +kernel
theorem dL_law_371 : decode cL_law 371 = .ok (.iconst 2, 1) := by decide +kernel
theorem dL_law_372 : decode cL_law 372 = .ok (.iadd, 1) := by decide +kernel
theorem dL_law_373 : decode cL_law 373 = .ok (.iaload, 1) := by decide +kernel
theorem dL_law_374 : decode cL_law 374 = .ok (.invokevirtual 48, 3) := by decide +kernel
theorem dL_law_377 : decode cL_law 377 = .ok (.if_icmp .eq 631, 3) := by decide +kernel
theorem dL_law_380 : decode cL_law 380 = .ok (.iconst 0, 1) := by decide +kernel
theorem dL_law_381 : decode cL_law 381 = .ok (.ireturn, 1) := by decide +kernel
theorem dL_law_382 : decode cL_law 382 = .ok (.aload_n 1, 1) := by decide +kernel
theorem dL_law_383 : decode cL_law 383 = .ok (.aload_n 0, 1) := by decide +kernel
theorem dL_law_384 : decode cL_law 384 = .ok (.iload_n 3, 1) := by decide +kernel
theorem dL_law_385 : decode cL_law 385 = .ok (.iconst 1, 1) := by decide +kernel
theorem dL_law_386 : decode cL_law 386 = .ok (.iadd, 1) := by decide +kernel
theorem dL_law_387 : decode cL_law 387 = .ok (.iaload, 1) := by decide +kernel
theorem dL_law_388 : decode cL_law 388 = .ok (.aload_n 0, 1) := by decide +kernel
theorem dL_law_389 : decode cL_law 389 = .ok (.iload_n 3, 1) := by decide +kernel
theorem dL_law_390 : decode cL_law 390 = .ok (.iconst 2, 1) := by decide +kernel
theorem dL_law_391 : decode cL_law 391 = .ok (.iadd, 1) := by decide +kernel
theorem dL_law_392 : decode cL_law 392 = .ok (.iaload, 1) := by decide +kernel
theorem dL_law_393 : decode cL_law 393 = .ok (.invokevirtual 49, 3) := by decide +kernel
theorem dL_law_396 : decode cL_law 396 = .ok (.aload_n 2, 1) := by decide +kernel
theorem dL_law_397 : decode cL_law 397 = .ok (.aload_n 0, 1) := by decide +kernel
theorem dL_law_398 : decode cL_law 398 = .ok (.iload_n 3, 1) := by decide +kernel
theorem dL_law_399 : decode cL_law 399 = .ok (.iconst 1, 1) := by decide +kernel
theorem dL_law_400 : decode cL_law 400 = .ok (.iadd, 1) := by decide +kernel
theorem dL_law_401 : decode cL_law 401 = .ok (.iaload, 1) := by decide +kernel
theorem dL_law_402 : decode cL_law 402 = .ok (.aload_n 0, 1) := by decide +kernel
theorem dL_law_403 : decode cL_law 403 = .ok (.iload_n 3, 1) := by decide +kernel
theorem dL_law_404 : decode cL_law 404 = .ok (.iconst 2, 1) := by decide +kernel
theorem dL_law_405 : decode cL_law 405 = .ok (.iadd, 1) := by decide +kernel
theorem dL_law_406 : decode cL_law 406 = .ok (.iaload, 1) := by decide +kernel
theorem dL_law_407 : decode cL_law 407 = .ok (.invokevirtual 52, 3) := by decide +kernel
theorem dL_law_410 : decode cL_law 410 = .ok (.if_icmp .eq 598, 3) := by decide +kernel
theorem dL_law_413 : decode cL_law 413 = .ok (.iconst 0, 1) := by decide +kernel
theorem dL_law_414 : decode cL_law 414 = .ok (.ireturn, 1) := by decide +kernel
theorem dL_law_415 : decode cL_law 415 = .ok (.aload_n 1, 1) := by decide +kernel
theorem dL_law_416 : decode cL_law 416 = .ok (.aload_n 0, 1) := by decide +kernel
theorem dL_law_417 : decode cL_law 417 = .ok (.iload_n 3, 1) := by decide +kernel
theorem dL_law_418 : decode cL_law 418 = .ok (.iconst 1, 1) := by decide +kernel
theorem dL_law_419 : decode cL_law 419 = .ok (.iadd, 1) := by decide +kernel
theorem dL_law_420 : decode cL_law 420 = .ok (.iaload, 1) := by decide +kernel
theorem dL_law_421 : decode cL_law 421 = .ok (.invokevirtual 53, 3) := by decide +kernel
theorem dL_law_424 : decode cL_law 424 = .ok (.aload_n 2, 1) := by decide +kernel
theorem dL_law_425 : decode cL_law 425 = .ok (.aload_n 0, 1) := by decide +kernel
theorem dL_law_426 : decode cL_law 426 = .ok (.iload_n 3, 1) := by decide +kernel
theorem dL_law_427 : decode cL_law 427 = .ok (.iconst 1, 1) := by decide +kernel
theorem dL_law_428 : decode cL_law 428 = .ok (.iadd, 1) := by decide +kernel
theorem dL_law_429 : decode cL_law 429 = .ok (.iaload, 1) := by decide +kernel
theorem dL_law_430 : decode cL_law 430 = .ok (.invokevirtual 56, 3) := by decide +kernel
theorem dL_law_433 : decode cL_law 433 = .ok (.if_icmp .eq 575, 3) := by decide +kernel
theorem dL_law_436 : decode cL_law 436 = .ok (.iconst 0, 1) := by decide +kernel
theorem dL_law_437 : decode cL_law 437 = .ok (.ireturn, 1) := by decide +kernel
theorem dL_law_438 : decode cL_law 438 = .ok (.aload_n 1, 1) := by decide +kernel
theorem dL_law_439 : decode cL_law 439 = .ok (.aload_n 0, 1) := by decide +kernel
theorem dL_law_440 : decode cL_law 440 = .ok (.iload_n 3, 1) := by decide +kernel
theorem dL_law_441 : decode cL_law 441 = .ok (.iconst 1, 1) := by decide +kernel
theorem dL_law_442 : decode cL_law 442 = .ok (.iadd, 1) := by decide +kernel
theorem dL_law_443 : decode cL_law 443 = .ok (.iaload, 1) := by decide +kernel
theorem dL_law_444 : decode cL_law 444 = .ok (.invokevirtual 57, 3) := by decide +kernel
theorem dL_law_447 : decode cL_law 447 = .ok (.aload_n 2, 1) := by decide +kernel
theorem dL_law_448 : decode cL_law 448 = .ok (.aload_n 0, 1) := by decide +kernel
theorem dL_law_449 : decode cL_law 449 = .ok (.iload_n 3, 1) := by decide +kernel
theorem dL_law_450 : decode cL_law 450 = .ok (.iconst 1, 1) := by decide +kernel
theorem dL_law_451 : decode cL_law 451 = .ok (.iadd, 1) := by decide +kernel
theorem dL_law_452 : decode cL_law 452 = .ok (.iaload, 1) := by decide +kernel
theorem dL_law_453 : decode cL_law 453 = .ok (.invokevirtual 60, 3) := by decide +kernel
theorem dL_law_456 : decode cL_law 456 = .ok (.if_icmp .eq 552, 3) := by decide +kernel
theorem dL_law_459 : decode cL_law 459 = .ok (.iconst 0, 1) := by decide +kernel
theorem dL_law_460 : decode cL_law 460 = .ok (.ireturn, 1) := by decide +kernel
theorem dL_law_461 : decode cL_law 461 = .ok (.aload_n 1, 1) := by decide +kernel
theorem dL_law_462 : decode cL_law 462 = .ok (.invokevirtual 61, 3) := by decide +kernel
theorem dL_law_465 : decode cL_law 465 = .ok (.aload_n 2, 1) := by decide +kernel
theorem dL_law_466 : decode cL_law 466 = .ok (.invokevirtual 64, 3) := by decide +kernel
theorem dL_law_469 : decode cL_law 469 = .ok (.if_icmp .eq 539, 3) := by decide +kernel
theorem dL_law_472 : decode cL_law 472 = .ok (.iconst 0, 1) := by decide +kernel
theorem dL_law_473 : decode cL_law 473 = .ok (.ireturn, 1) := by decide +kernel
theorem dL_law_474 : decode cL_law 474 = .ok (.aload_n 1, 1) := by decide +kernel
theorem dL_law_475 : decode cL_law 475 = .ok (.aload_n 0, 1) := by decide +kernel
theorem dL_law_476 : decode cL_law 476 = .ok (.iload_n 3, 1) := by decide +kernel
theorem dL_law_477 : decode cL_law 477 = .ok (.iconst 1, 1) := by decide +kernel
theorem dL_law_478 : decode cL_law 478 = .ok (.iadd, 1) := by decide +kernel
theorem dL_law_479 : decode cL_law 479 = .ok (.iaload, 1) := by decide +kernel
theorem dL_law_480 : decode cL_law 480 = .ok (.aload_n 0, 1) := by decide +kernel
theorem dL_law_481 : decode cL_law 481 = .ok (.iload_n 3, 1) := by decide +kernel
theorem dL_law_482 : decode cL_law 482 = .ok (.iconst 2, 1) := by decide +kernel
theorem dL_law_483 : decode cL_law 483 = .ok (.iadd, 1) := by decide +kernel
theorem dL_law_484 : decode cL_law 484 = .ok (.iaload, 1) := by decide +kernel
theorem dL_law_485 : decode cL_law 485 = .ok (.invokevirtual 65, 3) := by decide +kernel
theorem dL_law_488 : decode cL_law 488 = .ok (.aload_n 2, 1) := by decide +kernel
theorem dL_law_489 : decode cL_law 489 = .ok (.aload_n 0, 1) := by decide +kernel
theorem dL_law_490 : decode cL_law 490 = .ok (.iload_n 3, 1) := by decide +kernel
theorem dL_law_491 : decode cL_law 491 = .ok (.iconst 1, 1) := by decide +kernel
theorem dL_law_492 : decode cL_law 492 = .ok (.iadd, 1) := by decide +kernel
theorem dL_law_493 : decode cL_law 493 = .ok (.iaload, 1) := by decide +kernel
theorem dL_law_494 : decode cL_law 494 = .ok (.aload_n 0, 1) := by decide +kernel
theorem dL_law_495 : decode cL_law 495 = .ok (.iload_n 3, 1) := by decide +kernel
theorem dL_law_496 : decode cL_law 496 = .ok (.iconst 2, 1) := by decide +kernel
theorem dL_law_497 : decode cL_law 497 = .ok (.iadd, 1) := by decide +kernel
theorem dL_law_498 : decode cL_law 498 = .ok (.iaload, 1) := by decide +kernel
theorem dL_law_499 : decode cL_law 499 = .ok (.invokevirtual 68, 3) := by decide +kernel
theorem dL_law_502 : decode cL_law 502 = .ok (.if_icmp .eq 506, 3) := by decide +kernel
theorem dL_law_505 : decode cL_law 505 = .ok (.iconst 0, 1) := by decide +kernel
theorem dL_law_506 : decode cL_law 506 = .ok (.ireturn, 1) := by decide +kernel
theorem dL_law_507 : decode cL_law 507 = .ok (.aload_n 1, 1) := by decide +kernel
theorem dL_law_508 : decode cL_law 508 = .ok (.aload_n 0, 1) := by decide +kernel
theorem dL_law_509 : decode cL_law 509 = .ok (.iload_n 3, 1) := by decide +kernel
theorem dL_law_510 : decode cL_law 510 = .ok (.iconst 1, 1) := by decide +kernel
theorem dL_law_511 : decode cL_law 511 = .ok (.iadd, 1) := by decide +kernel
theorem dL_law_512 : decode cL_law 512 = .ok (.iaload, 1) := by decide +kernel
theorem dL_law_513 : decode cL_law 513 = .ok (.aload_n 0, 1) := by decide +kernel
theorem dL_law_514 : decode cL_law 514 = .ok (.iload_n 3, 1) := by decide +kernel
theorem dL_law_515 : decode cL_law 515 = .ok (.iconst 2, 1) := by decide +kernel
theorem dL_law_516 : decode cL_law 516 = .ok (.iadd, 1) := by decide +kernel
theorem dL_law_517 : decode cL_law 517 = .ok (.iaload, 1) := by decide +kernel
theorem dL_law_518 : decode cL_law 518 = .ok (.invokevirtual 69, 3) := by decide +kernel
theorem dL_law_521 : decode cL_law 521 = .ok (.aload_n 2, 1) := by decide +kernel
theorem dL_law_522 : decode cL_law 522 = .ok (.aload_n 0, 1) := by decide +kernel
theorem dL_law_523 : decode cL_law 523 = .ok (.iload_n 3, 1) := by decide +kernel
theorem dL_law_524 : decode cL_law 524 = .ok (.iconst 1, 1) := by decide +kernel
theorem dL_law_525 : decode cL_law 525 = .ok (.iadd, 1) := by decide +kernel
theorem dL_law_526 : decode cL_law 526 = .ok (.iaload, 1) := by decide +kernel
theorem dL_law_527 : decode cL_law 527 = .ok (.aload_n 0, 1) := by decide +kernel
theorem dL_law_528 : decode cL_law 528 = .ok (.iload_n 3, 1) := by decide +kernel
theorem dL_law_529 : decode cL_law 529 = .ok (.iconst 2, 1) := by decide +kernel
theorem dL_law_530 : decode cL_law 530 = .ok (.iadd, 1) := by decide +kernel
theorem dL_law_531 : decode cL_law 531 = .ok (.iaload, 1) := by decide +kernel
theorem dL_law_532 : decode cL_law 532 = .ok (.invokevirtual 72, 3) := by decide +kernel
theorem dL_law_535 : decode cL_law 535 = .ok (.if_icmp .eq 473, 3) := by decide +kernel
theorem dL_law_538 : decode cL_law 538 = .ok (.iconst 0, 1) := by decide +kernel
theorem dL_law_539 : decode cL_law 539 = .ok (.ireturn, 1) := by decide +kernel
theorem dL_law_540 : decode cL_law 540 = .ok (.aload_n 1, 1) := by decide +kernel
theorem dL_law_541 : decode cL_law 541 = .ok (.aload_n 0, 1) := by decide +kernel
theorem dL_law_542 : decode cL_law 542 = .ok (.iload_n 3, 1) := by decide +kernel
theorem dL_law_543 : decode cL_law 543 = .ok (.iconst 1, 1) := by decide +kernel
theorem dL_law_544 : decode cL_law 544 = .ok (.iadd, 1) := by decide +kernel
theorem dL_law_545 : decode cL_law 545 = .ok (.iaload, 1) := by decide +kernel
theorem dL_law_546 : decode cL_law 546 = .ok (.aload_n 0, 1) := by decide +kernel
theorem dL_law_547 : decode cL_law 547 = .ok (.iload_n 3, 1) := by decide +kernel
theorem dL_law_548 : decode cL_law 548 = .ok (.iconst 2, 1) := by decide +kernel
theorem dL_law_549 : decode cL_law 549 = .ok (.iadd, 1) := by decide +kernel
theorem dL_law_550 : decode cL_law 550 = .ok (.iaload, 1) := by decide +kernel
theorem dL_law_551 : decode cL_law 551 = .ok (.invokevirtual 73, 3) := by decide +kernel
theorem dL_law_554 : decode cL_law 554 = .ok (.aload_n 2, 1) := by decide +kernel
theorem dL_law_555 : decode cL_law 555 = .ok (.aload_n 0, 1) := by decide +kernel
theorem dL_law_556 : decode cL_law 556 = .ok (.iload_n 3, 1) := by decide +kernel
theorem dL_law_557 : decode cL_law 557 = .ok (.iconst 1, 1) := by decide +kernel
theorem dL_law_558 : decode cL_law 558 = .ok (.iadd, 1) := by decide +kernel
theorem dL_law_559 : decode cL_law 559 = .ok (.iaload, 1) := by decide +kernel
theorem dL_law_560 : decode cL_law 560 = .ok (.aload_n 0, 1) := by decide +kernel
theorem dL_law_561 : decode cL_law 561 = .ok (.iload_n 3, 1) := by decide +kernel
theorem dL_law_562 : decode cL_law 562 = .ok (.iconst 2, 1) := by decide +kernel
theorem dL_law_563 : decode cL_law 563 = .ok (.iadd, 1) := by decide +kernel
theorem dL_law_564 : decode cL_law 564 = .ok (.iaload, 1) := by decide +kernel
theorem dL_law_565 : decode cL_law 565 = .ok (.invokevirtual 76, 3) := by decide +kernel
theorem dL_law_568 : decode cL_law 568 = .ok (.if_icmp .eq 440, 3) := by decide +kernel
theorem dL_law_571 : decode cL_law 571 = .ok (.iconst 0, 1) := by decide +kernel
theorem dL_law_572 : decode cL_law 572 = .ok (.ireturn, 1) := by decide +kernel
theorem dL_law_573 : decode cL_law 573 = .ok (.aload_n 1, 1) := by decide +kernel
theorem dL_law_574 : decode cL_law 574 = .ok (.aload_n 0, 1) := by decide +kernel
theorem dL_law_575 : decode cL_law 575 = .ok (.iload_n 3, 1) := by decide +kernel
theorem dL_law_576 : decode cL_law 576 = .ok (.iconst 1, 1) := by decide +kernel
theorem dL_law_577 : decode cL_law 577 = .ok (.iadd, 1) := by decide +kernel
theorem dL_law_578 : decode cL_law 578 = .ok (.iaload, 1) := by decide +kernel
theorem dL_law_579 : decode cL_law 579 = .ok (.aload_n 0, 1) := by decide +kernel
theorem dL_law_580 : decode cL_law 580 = .ok (.iload_n 3, 1) := by decide +kernel
theorem dL_law_581 : decode cL_law 581 = .ok (.iconst 2, 1) := by decide +kernel
theorem dL_law_582 : decode cL_law 582 = .ok (.iadd, 1) := by decide +kernel
theorem dL_law_583 : decode cL_law 583 = .ok (.iaload, 1) := by decide +kernel
theorem dL_law_584 : decode cL_law 584 = .ok (.aload_n 0, 1) := by decide +kernel
theorem dL_law_585 : decode cL_law 585 = .ok (.iload_n 3, 1) := by decide +kernel
theorem dL_law_586 : decode cL_law 586 = .ok (.iconst 3, 1) := by decide +kernel
theorem dL_law_587 : decode cL_law 587 = .ok (.iadd, 1) := by decide +kernel
theorem dL_law_588 : decode cL_law 588 = .ok (.iaload, 1) := by decide +kernel
theorem dL_law_589 : decode cL_law 589 = .ok (.invokevirtual 77, 3) := by decide +kernel
theorem dL_law_592 : decode cL_law 592 = .ok (.aload_n 2, 1) := by decide +kernel
theorem dL_law_593 : decode cL_law 593 = .ok (.aload_n 0, 1) := by decide +kernel
theorem dL_law_594 : decode cL_law 594 = .ok (.iload_n 3, 1) := by decide +kernel
theorem dL_law_595 : decode cL_law 595 = .ok (.iconst 1, 1) := by decide +kernel
theorem dL_law_596 : decode cL_law 596 = .ok (.iadd, 1) := by decide +kernel
theorem dL_law_597 : decode cL_law 597 = .ok (.iaload, 1) := by decide +kernel
theorem dL_law_598 : decode cL_law 598 = .ok (.aload_n 0, 1) := by decide +kernel
theorem dL_law_599 : decode cL_law 599 = .ok (.iload_n 3, 1) := by decide +kernel
theorem dL_law_600 : decode cL_law 600 = .ok (.iconst 2, 1) := by decide +kernel
theorem dL_law_601 : decode cL_law 601 = .ok (.iadd, 1) := by decide +kernel
theorem dL_law_602 : decode cL_law 602 = .ok (.iaload, 1) := by decide +kernel
theorem dL_law_603 : decode cL_law 603 = .ok (.aload_n 0, 1) := by decide +kernel
theorem dL_law_604 : decode cL_law 604 = .ok (.iload_n 3, 1) := by decide +kernel
theorem dL_law_605 : decode cL_law 605 = .ok (.iconst 3, 1) := by decide +kernel
theorem dL_law_606 : decode cL_law 606 = .ok (.iadd, 1) := by decide +kernel
theorem dL_law_607 : decode cL_law 607 = .ok (.iaload, 1) := by decide +kernel
theorem dL_law_608 : decode cL_law 608 = .ok (.invokevirtual 80, 3) := by decide +kernel
theorem dL_law_611 : decode cL_law 611 = .ok (.if_icmp .eq 397, 3) := by decide +kernel
theorem dL_law_614 : decode cL_law 614 = .ok (.iconst 0, 1) := by decide +kernel
theorem dL_law_615 : decode cL_law 615 = .ok (.ireturn, 1) := by decide +kernel
theorem dL_law_616 : decode cL_law 616 = .ok (.aload_n 1, 1) := by decide +kernel
theorem dL_law_617 : decode cL_law 617 = .ok (.aload_n 0, 1) := by decide +kernel
theorem dL_law_618 : decode cL_law 618 = .ok (.iload_n 3, 1) := by decide +kernel
theorem dL_law_619 : decode cL_law 619 = .ok (.iconst 1, 1) := by decide +kernel
theorem dL_law_620 : decode cL_law 620 = .ok (.iadd, 1) := by decide +kernel
theorem dL_law_621 : decode cL_law 621 = .ok (.iaload, 1) := by decide +kernel
theorem dL_law_622 : decode cL_law 622 = .ok (.invokevirtual 81, 3) := by decide +kernel
theorem dL_law_625 : decode cL_law 625 = .ok (.aload_n 2, 1) := by decide +kernel
theorem dL_law_626 : decode cL_law 626 = .ok (.aload_n 0, 1) := by decide +kernel
theorem dL_law_627 : decode cL_law 627 = .ok (.iload_n 3, 1) := by decide +kernel
theorem dL_law_628 : decode cL_law 628 = .ok (.iconst 1, 1) := by decide +kernel
theorem dL_law_629 : decode cL_law 629 = .ok (.iadd, 1) := by decide +kernel
theorem dL_law_630 : decode cL_law 630 = .ok (.iaload, 1) := by decide +kernel
theorem dL_law_631 : decode cL_law 631 = .ok (.invokevirtual 84, 3) := by decide +kernel
theorem dL_law_634 : decode cL_law 634 = .ok (.if_icmp .eq 374, 3) := by decide +kernel
theorem dL_law_637 : decode cL_law 637 = .ok (.iconst 0, 1) := by decide +kernel
theorem dL_law_638 : decode cL_law 638 = .ok (.ireturn, 1) := by decide +kernel
theorem dL_law_639 : decode cL_law 639 = .ok (.aload_n 1, 1) := by decide +kernel
theorem dL_law_640 : decode cL_law 640 = .ok (.aload_n 0, 1) := by decide +kernel
theorem dL_law_641 : decode cL_law 641 = .ok (.iload_n 3, 1) := by decide +kernel
theorem dL_law_642 : decode cL_law 642 = .ok (.iconst 1, 1) := by decide +kernel
theorem dL_law_643 : decode cL_law 643 = .ok (.iadd, 1) := by decide +kernel
theorem dL_law_644 : decode cL_law 644 = .ok (.iaload, 1) := by decide +kernel
theorem dL_law_645 : decode cL_law 645 = .ok (.invokevirtual 85, 3) := by decide +kernel
theorem dL_law_648 : decode cL_law 648 = .ok (.aload_n 2, 1) := by decide +kernel
theorem dL_law_649 : decode cL_law 649 = .ok (.aload_n 0, 1) := by decide +kernel
theorem dL_law_650 : decode cL_law 650 = .ok (.iload_n 3, 1) := by decide +kernel
theorem dL_law_651 : decode cL_law 651 = .ok (.iconst 1, 1) := by decide +kernel
theorem dL_law_652 : decode cL_law 652 = .ok (.iadd, 1) := by decide +kernel
theorem dL_law_653 : decode cL_law 653 = .ok (.iaload, 1) := by decide +kernel
theorem dL_law_654 : decode cL_law 654 = .ok (.invokevirtual 88, 3) := by decide +kernel
theorem dL_law_657 : decode cL_law 657 = .ok (.if_icmp .eq 351, 3) := by decide +kernel
theorem dL_law_660 : decode cL_law 660 = .ok (.iconst 0, 1) := by decide +kernel
theorem dL_law_661 : decode cL_law 661 = .ok (.ireturn, 1) := by decide +kernel
theorem dL_law_662 : decode cL_law 662 = .ok (.aload_n 1, 1) := by decide +kernel
theorem dL_law_663 : decode cL_law 663 = .ok (.aload_n 0, 1) := by decide +kernel
theorem dL_law_664 : decode cL_law 664 = .ok (.iload_n 3, 1) := by decide +kernel
theorem dL_law_665 : decode cL_law 665 = .ok (.iconst 1, 1) := by decide +kernel
theorem dL_law_666 : decode cL_law 666 = .ok (.iadd, 1) := by decide +kernel
theorem dL_law_667 : decode cL_law 667 = .ok (.iaload, 1) := by decide +kernel
theorem dL_law_668 : decode cL_law 668 = .ok (.aload_n 0, 1) := by decide +kernel
theorem dL_law_669 : decode cL_law 669 = .ok (.iload_n 3, 1) := by decide +kernel
theorem dL_law_670 : decode cL_law 670 = .ok (.iconst 2, 1) := by decide +kernel
theorem dL_law_671 : decode cL_law 671 = .ok (.iadd, 1) := by decide +kernel
theorem dL_law_672 : decode cL_law 672 = .ok (.iaload, 1) := by decide +kernel
theorem dL_law_673 : decode cL_law 673 = .ok (.invokevirtual 89, 3) := by decide +kernel
theorem dL_law_676 : decode cL_law 676 = .ok (.aload_n 2, 1) := by decide +kernel
theorem dL_law_677 : decode cL_law 677 = .ok (.aload_n 0, 1) := by decide +kernel
theorem dL_law_678 : decode cL_law 678 = .ok (.iload_n 3, 1) := by decide +kernel
theorem dL_law_679 : decode cL_law 679 = .ok (.iconst 1, 1) := by decide +kernel
theorem dL_law_680 : decode cL_law 680 = .ok (.iadd, 1) := by decide +kernel
theorem dL_law_681 : decode cL_law 681 = .ok (.iaload, 1) := by decide +kernel
theorem dL_law_682 : decode cL_law 682 = .ok (.aload_n 0, 1) := by decide +kernel
theorem dL_law_683 : decode cL_law 683 = .ok (.iload_n 3, 1) := by decide +kernel
theorem dL_law_684 : decode cL_law 684 = .ok (.iconst 2, 1) := by decide +kernel
theorem dL_law_685 : decode cL_law 685 = .ok (.iadd, 1) := by decide +kernel
theorem dL_law_686 : decode cL_law 686 = .ok (.iaload, 1) := by decide +kernel
theorem dL_law_687 : decode cL_law 687 = .ok (.invokevirtual 92, 3) := by decide +kernel
theorem dL_law_690 : decode cL_law 690 = .ok (.if_icmp .eq 318, 3) := by decide +kernel
theorem dL_law_693 : decode cL_law 693 = .ok (.iconst 0, 1) := by decide +kernel
theorem dL_law_694 : decode cL_law 694 = .ok (.ireturn, 1) := by decide +kernel
theorem dL_law_695 : decode cL_law 695 = .ok (.aload_n 1, 1) := by decide +kernel
theorem dL_law_696 : decode cL_law 696 = .ok (.aload_n 0, 1) := by decide +kernel
theorem dL_law_697 : decode cL_law 697 = .ok (.iload_n 3, 1) := by decide +kernel
theorem dL_law_698 : decode cL_law 698 = .ok (.iconst 1, 1) := by decide +kernel
theorem dL_law_699 : decode cL_law 699 = .ok (.iadd, 1) := by decide +kernel
theorem dL_law_700 : decode cL_law 700 = .ok (.iaload, 1) := by decide +kernel
theorem dL_law_701 : decode cL_law 701 = .ok (.aload_n 0, 1) := by decide +kernel
theorem dL_law_702 : decode cL_law 702 = .ok (.iload_n 3, 1) := by decide +kernel
theorem dL_law_703 : decode cL_law 703 = .ok (.iconst 2, 1) := by decide +kernel
theorem dL_law_704 : decode cL_law 704 = .ok (.iadd, 1) := by decide +kernel
theorem dL_law_705 : decode cL_law 705 = .ok (.iaload, 1) := by decide +kernel
theorem dL_law_706 : decode cL_law 706 = .ok (.invokevirtual 93, 3) := by decide +kernel
theorem dL_law_709 : decode cL_law 709 = .ok (.aload_n 2, 1) := by decide +kernel
theorem dL_law_710 : decode cL_law 710 = .ok (.aload_n 0, 1) := by decide +kernel
theorem dL_law_711 : decode cL_law 711 = .ok (.iload_n 3, 1) := by decide +kernel
theorem dL_law_712 : decode cL_law 712 = .ok (.iconst 1, 1) := by decide +kernel
theorem dL_law_713 : decode cL_law 713 = .ok (.iadd, 1) := by decide +kernel
theorem dL_law_714 : decode cL_law 714 = .ok (.iaload, 1) := by decide +kernel
theorem dL_law_715 : decode cL_law 715 = .ok (.aload_n 0, 1) := by decide +kernel
theorem dL_law_716 : decode cL_law 716 = .ok (.iload_n 3, 1) := by decide +kernel
theorem dL_law_717 : decode cL_law 717 = .ok (.iconst 2, 1) := by decide +kernel
theorem dL_law_718 : decode cL_law 718 = .ok (.iadd, 1) := by decide +kernel
theorem dL_law_719 : decode cL_law 719 = .ok (.iaload, 1) := by decide +kernel
theorem dL_law_720 : decode cL_law 720 = .ok (.invokevirtual 96, 3) := by decide +kernel
theorem dL_law_723 : decode cL_law 723 = .ok (.if_icmp .eq 285, 3) := by decide +kernel
theorem dL_law_726 : decode cL_law 726 = .ok (.iconst 0, 1) := by decide +kernel
theorem dL_law_727 : decode cL_law 727 = .ok (.ireturn, 1) := by decide +kernel
theorem dL_law_728 : decode cL_law 728 = .ok (.aload_n 1, 1) := by decide +kernel
theorem dL_law_729 : decode cL_law 729 = .ok (.aload_n 0, 1) := by decide +kernel
theorem dL_law_730 : decode cL_law 730 = .ok (.iload_n 3, 1) := by decide +kernel
theorem dL_law_731 : decode cL_law 731 = .ok (.iconst 1, 1) := by decide +kernel
theorem dL_law_732 : decode cL_law 732 = .ok (.iadd, 1) := by decide +kernel
theorem dL_law_733 : decode cL_law 733 = .ok (.iaload, 1) := by decide +kernel
theorem dL_law_734 : decode cL_law 734 = .ok (.aload_n 0, 1) := by decide +kernel
theorem dL_law_735 : decode cL_law 735 = .ok (.iload_n 3, 1) := by decide +kernel
theorem dL_law_736 : decode cL_law 736 = .ok (.iconst 2, 1) := by decide +kernel
theorem dL_law_737 : decode cL_law 737 = .ok (.iadd, 1) := by decide +kernel
theorem dL_law_738 : decode cL_law 738 = .ok (.iaload, 1) := by decide +kernel
theorem dL_law_739 : decode cL_law 739 = .ok (.invokevirtual 97, 3) := by decide +kernel
theorem dL_law_742 : decode cL_law 742 = .ok (.aload_n 2, 1) := by decide +kernel
theorem dL_law_743 : decode cL_law 743 = .ok (.aload_n 0, 1) := by decide +kernel
theorem dL_law_744 : decode cL_law 744 = .ok (.iload_n 3, 1) := by decide +kernel
theorem dL_law_745 : decode cL_law 745 = .ok (.iconst 1, 1) := by decide +kernel
theorem dL_law_746 : decode cL_law 746 = .ok (.iadd, 1) := by decide +kernel
theorem dL_law_747 : decode cL_law 747 = .ok (.iaload, 1) := by decide +kernel
theorem dL_law_748 : decode cL_law 748 = .ok (.aload_n 0, 1) := by decide +kernel
theorem dL_law_749 : decode cL_law 749 = .ok (.iload_n 3, 1) := by decide +kernel
theorem dL_law_750 : decode cL_law 750 = .ok (.iconst 2, 1) := by decide +kernel
theorem dL_law_751 : decode cL_law 751 = .ok (.iadd, 1) := by decide +kernel
theorem dL_law_752 : decode cL_law 752 = .ok (.iaload, 1) := by decide +kernel
theorem dL_law_753 : decode cL_law 753 = .ok (.invokevirtual 100, 3) := by decide +kernel
theorem dL_law_756 : decode cL_law 756 = .ok (.if_icmp .eq 252, 3) := by decide +kernel
theorem dL_law_759 : decode cL_law 759 = .ok (.iconst 0, 1) := by decide +kernel
theorem dL_law_760 : decode cL_law 760 = .ok (.ireturn, 1) := by decide +kernel
theorem dL_law_761 : decode cL_law 761 = .ok (.aload_n 1, 1) := by decide +kernel
theorem dL_law_762 : decode cL_law 762 = .ok (.aload_n 0, 1) := by decide +kernel
theorem dL_law_763 : decode cL_law 763 = .ok (.iload_n 3, 1) := by decide +kernel
theorem dL_law_764 : decode cL_law 764 = .ok (.iconst 1, 1) := by decide +kernel
theorem dL_law_765 : decode cL_law 765 = .ok (.iadd, 1) := by decide +kernel
theorem dL_law_766 : decode cL_law 766 = .ok (.iaload, 1) := by decide +kernel
theorem dL_law_767 : decode cL_law 767 = .ok (.aload_n 0, 1) := by decide +kernel
theorem dL_law_768 : decode cL_law 768 = .ok (.iload_n 3, 1) := by decide +kernel
theorem dL_law_769 : decode cL_law 769 = .ok (.iconst 2, 1) := by decide +kernel
theorem dL_law_770 : decode cL_law 770 = .ok (.iadd, 1) := by decide +kernel
theorem dL_law_771 : decode cL_law 771 = .ok (.iaload, 1) := by decide +kernel
theorem dL_law_772 : decode cL_law 772 = .ok (.aload_n 0, 1) := by decide +kernel
theorem dL_law_773 : decode cL_law 773 = .ok (.iload_n 3, 1) := by decide +kernel
theorem dL_law_774 : decode cL_law 774 = .ok (.iconst 3, 1) := by decide +kernel
theorem dL_law_775 : decode cL_law 775 = .ok (.iadd, 1) := by decide +kernel
theorem dL_law_776 : decode cL_law 776 = .ok (.iaload, 1) := by decide +kernel
theorem dL_law_777 : decode cL_law 777 = .ok (.invokevirtual 101, 3) := by decide +kernel
theorem dL_law_780 : decode cL_law 780 = .ok (.aload_n 2, 1) := by decide +kernel
theorem dL_law_781 : decode cL_law 781 = .ok (.aload_n 0, 1) := by decide +kernel
theorem dL_law_782 : decode cL_law 782 = .ok (.iload_n 3, 1) := by decide +kernel
theorem dL_law_783 : decode cL_law 783 = .ok (.iconst 1, 1) := by decide +kernel
theorem dL_law_784 : decode cL_law 784 = .ok (.iadd, 1) := by decide +kernel
theorem dL_law_785 : decode cL_law 785 = .ok (.iaload, 1) := by decide +kernel
theorem dL_law_786 : decode cL_law 786 = .ok (.aload_n 0, 1) := by decide +kernel
theorem dL_law_787 : decode cL_law 787 = .ok (.iload_n 3, 1) := by decide +kernel
theorem dL_law_788 : decode cL_law 788 = .ok (.iconst 2, 1) := by decide +kernel
theorem dL_law_789 : decode cL_law 789 = .ok (.iadd, 1) := by decide +kernel
theorem dL_law_790 : decode cL_law 790 = .ok (.iaload, 1) := by decide +kernel
theorem dL_law_791 : decode cL_law 791 = .ok (.aload_n 0, 1) := by decide +kernel
theorem dL_law_792 : decode cL_law 792 = .ok (.iload_n 3, 1) := by decide +kernel
theorem dL_law_793 : decode cL_law 793 = .ok (.iconst 3, 1) := by decide +kernel
theorem dL_law_794 : decode cL_law 794 = .ok (.iadd, 1) := by decide +kernel
theorem dL_law_795 : decode cL_law 795 = .ok (.iaload, 1) := by decide +kernel
theorem dL_law_796 : decode cL_law 796 = .ok (.invokevirtual 104, 3) := by decide +kernel
theorem dL_law_799 : decode cL_law 799 = .ok (.if_icmp .eq 209, 3) := by decide +kernel
theorem dL_law_802 : decode cL_law 802 = .ok (.iconst 0, 1) := by decide +kernel
theorem dL_law_803 : decode cL_law 803 = .ok (.ireturn, 1) := by decide +kernel
theorem dL_law_804 : decode cL_law 804 = .ok (.aload_n 1, 1) := by decide +kernel
theorem dL_law_805 : decode cL_law 805 = .ok (.invokevirtual 105, 3) := by decide +kernel
theorem dL_law_808 : decode cL_law 808 = .ok (.aload_n 2, 1) := by decide +kernel
theorem dL_law_809 : decode cL_law 809 = .ok (.invokevirtual 108, 3) := by decide +kernel
theorem dL_law_812 : decode cL_law 812 = .ok (.if_icmp .eq 196, 3) := by decide +kernel
theorem dL_law_815 : decode cL_law 815 = .ok (.iconst 0, 1) := by decide +kernel
theorem dL_law_816 : decode cL_law 816 = .ok (.ireturn, 1) := by decide +kernel
theorem dL_law_817 : decode cL_law 817 = .ok (.aload_n 1, 1) := by decide +kernel
theorem dL_law_818 : decode cL_law 818 = .ok (.aload_n 0, 1) := by decide +kernel
theorem dL_law_819 : decode cL_law 819 = .ok (.iload_n 3, 1) := by decide +kernel
theorem dL_law_820 : decode cL_law 820 = .ok (.iconst 1, 1) := by decide +kernel
theorem dL_law_821 : decode cL_law 821 = .ok (.iadd, 1) := by decide +kernel
theorem dL_law_822 : decode cL_law 822 = .ok (.iaload, 1) := by decide +kernel
theorem dL_law_823 : decode cL_law 823 = .ok (.aload_n 0, 1) := by decide +kernel
theorem dL_law_824 : decode cL_law 824 = .ok (.iload_n 3, 1) := by decide +kernel
theorem dL_law_825 : decode cL_law 825 = .ok (.iconst 2, 1) := by decide +kernel
theorem dL_law_826 : decode cL_law 826 = .ok (.iadd, 1) := by decide +kernel
theorem dL_law_827 : decode cL_law 827 = .ok (.iaload, 1) := by decide +kernel
theorem dL_law_828 : decode cL_law 828 = .ok (.invokevirtual 109, 3) := by decide +kernel
theorem dL_law_831 : decode cL_law 831 = .ok (.aload_n 2, 1) := by decide +kernel
theorem dL_law_832 : decode cL_law 832 = .ok (.aload_n 0, 1) := by decide +kernel
theorem dL_law_833 : decode cL_law 833 = .ok (.iload_n 3, 1) := by decide +kernel
theorem dL_law_834 : decode cL_law 834 = .ok (.iconst 1, 1) := by decide +kernel
theorem dL_law_835 : decode cL_law 835 = .ok (.iadd, 1) := by decide +kernel
theorem dL_law_836 : decode cL_law 836 = .ok (.iaload, 1) := by decide +kernel
theorem dL_law_837 : decode cL_law 837 = .ok (.aload_n 0, 1) := by decide +kernel
theorem dL_law_838 : decode cL_law 838 = .ok (.iload_n 3, 1) := by decide +kernel
theorem dL_law_839 : decode cL_law 839 = .ok (.iconst 2, 1) := by decide +kernel
theorem dL_law_840 : decode cL_law 840 = .ok (.iadd, 1) := by decide +kernel
theorem dL_law_841 : decode cL_law 841 = .ok (.iaload, 1) := by decide +kernel
theorem dL_law_842 : decode cL_law 842 = .ok (.invokevirtual 112, 3) := by decide +kernel
theorem dL_law_845 : decode cL_law 845 = .ok (.if_icmp .eq 163, 3) := by decide +kernel
theorem dL_law_848 : decode cL_law 848 = .ok (.iconst 0, 1) := by decide +kernel
theorem dL_law_849 : decode cL_law 849 = .ok (.ireturn, 1) := by decide +kernel
theorem dL_law_850 : decode cL_law 850 = .ok (.aload_n 1, 1) := by decide +kernel
theorem dL_law_851 : decode cL_law 851 = .ok (.aload_n 0, 1) := by decide +kernel
theorem dL_law_852 : decode cL_law 852 = .ok (.iload_n 3, 1) := by decide +kernel
theorem dL_law_853 : decode cL_law 853 = .ok (.iconst 1, 1) := by decide +kernel
theorem dL_law_854 : decode cL_law 854 = .ok (.iadd, 1) := by decide +kernel
theorem dL_law_855 : decode cL_law 855 = .ok (.iaload, 1) := by decide +kernel
theorem dL_law_856 : decode cL_law 856 = .ok (.invokevirtual 113, 3) := by decide +kernel
theorem dL_law_859 : decode cL_law 859 = .ok (.aload_n 2, 1) := by decide +kernel
theorem dL_law_860 : decode cL_law 860 = .ok (.aload_n 0, 1) := by decide +kernel
theorem dL_law_861 : decode cL_law 861 = .ok (.iload_n 3, 1) := by decide +kernel
theorem dL_law_862 : decode cL_law 862 = .ok (.iconst 1, 1) := by decide +kernel
theorem dL_law_863 : decode cL_law 863 = .ok (.iadd, 1) := by decide +kernel
theorem dL_law_864 : decode cL_law 864 = .ok (.iaload, 1) := by decide +kernel
theorem dL_law_865 : decode cL_law 865 = .ok (.invokevirtual 116, 3) := by decide +kernel
theorem dL_law_868 : decode cL_law 868 = .ok (.if_icmp .eq 140, 3) := by decide +kernel
theorem dL_law_871 : decode cL_law 871 = .ok (.iconst 0, 1) := by decide +kernel
theorem dL_law_872 : decode cL_law 872 = .ok (.ireturn, 1) := by decide +kernel
theorem dL_law_873 : decode cL_law 873 = .ok (.aload_n 1, 1) := by decide +kernel
theorem dL_law_874 : decode cL_law 874 = .ok (.aload_n 0, 1) := by decide +kernel
theorem dL_law_875 : decode cL_law 875 = .ok (.iload_n 3, 1) := by decide +kernel
theorem dL_law_876 : decode cL_law 876 = .ok (.iconst 1, 1) := by decide +kernel
theorem dL_law_877 : decode cL_law 877 = .ok (.iadd, 1) := by decide +kernel
theorem dL_law_878 : decode cL_law 878 = .ok (.iaload, 1) := by decide +kernel
theorem dL_law_879 : decode cL_law 879 = .ok (.invokevirtual 117, 3) := by decide +kernel
theorem dL_law_882 : decode cL_law 882 = .ok (.aload_n 2, 1) := by decide +kernel
theorem dL_law_883 : decode cL_law 883 = .ok (.aload_n 0, 1) := by decide +kernel
theorem dL_law_884 : decode cL_law 884 = .ok (.iload_n 3, 1) := by decide +kernel
theorem dL_law_885 : decode cL_law 885 = .ok (.iconst 1, 1) := by decide +kernel
theorem dL_law_886 : decode cL_law 886 = .ok (.iadd, 1) := by decide +kernel
theorem dL_law_887 : decode cL_law 887 = .ok (.iaload, 1) := by decide +kernel
theorem dL_law_888 : decode cL_law 888 = .ok (.invokevirtual 120, 3) := by decide +kernel
theorem dL_law_891 : decode cL_law 891 = .ok (.if_icmp .eq 117, 3) := by decide +kernel
theorem dL_law_894 : decode cL_law 894 = .ok (.iconst 0, 1) := by decide +kernel
theorem dL_law_895 : decode cL_law 895 = .ok (.ireturn, 1) := by decide +kernel
theorem dL_law_896 : decode cL_law 896 = .ok (.aload_n 1, 1) := by decide +kernel
theorem dL_law_897 : decode cL_law 897 = .ok (.aload_n 0, 1) := by decide +kernel
theorem dL_law_898 : decode cL_law 898 = .ok (.iload_n 3, 1) := by decide +kernel
theorem dL_law_899 : decode cL_law 899 = .ok (.iconst 1, 1) := by decide +kernel
theorem dL_law_900 : decode cL_law 900 = .ok (.iadd, 1) := by decide +kernel
theorem dL_law_901 : decode cL_law 901 = .ok (.iaload, 1) := by decide +kernel
theorem dL_law_902 : decode cL_law 902 = .ok (.invokevirtual 121, 3) := by decide +kernel
theorem dL_law_905 : decode cL_law 905 = .ok (.aload_n 2, 1) := by decide +kernel
theorem dL_law_906 : decode cL_law 906 = .ok (.aload_n 0, 1) := by decide +kernel
theorem dL_law_907 : decode cL_law 907 = .ok (.iload_n 3, 1) := by decide +kernel
theorem dL_law_908 : decode cL_law 908 = .ok (.iconst 1, 1) := by decide +kernel
theorem dL_law_909 : decode cL_law 909 = .ok (.iadd, 1) := by decide +kernel
theorem dL_law_910 : decode cL_law 910 = .ok (.iaload, 1) := by decide +kernel
theorem dL_law_911 : decode cL_law 911 = .ok (.invokevirtual 124, 3) := by decide +kernel
theorem dL_law_914 : decode cL_law 914 = .ok (.if_icmp .eq 94, 3) := by decide +kernel
theorem dL_law_917 : decode cL_law 917 = .ok (.iconst 0, 1) := by decide +kernel
theorem dL_law_918 : decode cL_law 918 = .ok (.ireturn, 1) := by decide +kernel
theorem dL_law_919 : decode cL_law 919 = .ok (.aload_n 1, 1) := by decide +kernel
theorem dL_law_920 : decode cL_law 920 = .ok (.aload_n 0, 1) := by decide +kernel
theorem dL_law_921 : decode cL_law 921 = .ok (.iload_n 3, 1) := by decide +kernel
theorem dL_law_922 : decode cL_law 922 = .ok (.iconst 1, 1) := by decide +kernel
theorem dL_law_923 : decode cL_law 923 = .ok (.iadd, 1) := by decide +kernel
theorem dL_law_924 : decode cL_law 924 = .ok (.iaload, 1) := by decide +kernel
theorem dL_law_925 : decode cL_law 925 = .ok (.aload_n 0, 1) := by decide +kernel
theorem dL_law_926 : decode cL_law 926 = .ok (.iload_n 3, 1) := by decide +kernel
theorem dL_law_927 : decode cL_law 927 = .ok (.iconst 2, 1) := by decide +kernel
theorem dL_law_928 : decode cL_law 928 = .ok (.iadd, 1) := by decide +kernel
theorem dL_law_929 : decode cL_law 929 = .ok (.iaload, 1) := by decide +kernel
theorem dL_law_930 : decode cL_law 930 = .ok (.aload_n 0, 1) := by decide +kernel
theorem dL_law_931 : decode cL_law 931 = .ok (.iload_n 3, 1) := by decide +kernel
theorem dL_law_932 : decode cL_law 932 = .ok (.iconst 3, 1) := by decide +kernel
theorem dL_law_933 : decode cL_law 933 = .ok (.iadd, 1) := by decide +kernel
theorem dL_law_934 : decode cL_law 934 = .ok (.iaload, 1) := by decide +kernel
theorem dL_law_935 : decode cL_law 935 = .ok (.invokevirtual 125, 3) := by decide +kernel
theorem dL_law_938 : decode cL_law 938 = .ok (.aload_n 2, 1) := by decide +kernel
theorem dL_law_939 : decode cL_law 939 = .ok (.aload_n 0, 1) := by decide +kernel
theorem dL_law_940 : decode cL_law 940 = .ok (.iload_n 3, 1) := by decide +kernel
theorem dL_law_941 : decode cL_law 941 = .ok (.iconst 1, 1) := by decide +kernel
theorem dL_law_942 : decode cL_law 942 = .ok (.iadd, 1) := by decide +kernel
theorem dL_law_943 : decode cL_law 943 = .ok (.iaload, 1) := by decide +kernel
theorem dL_law_944 : decode cL_law 944 = .ok (.aload_n 0, 1) := by decide +kernel
theorem dL_law_945 : decode cL_law 945 = .ok (.iload_n 3, 1) := by decide +kernel
theorem dL_law_946 : decode cL_law 946 = .ok (.iconst 2, 1) := by decide +kernel
theorem dL_law_947 : decode cL_law 947 = .ok (.iadd, 1) := by decide +kernel
theorem dL_law_948 : decode cL_law 948 = .ok (.iaload, 1) := by decide +kernel
theorem dL_law_949 : decode cL_law 949 = .ok (.aload_n 0, 1) := by decide +kernel
theorem dL_law_950 : decode cL_law 950 = .ok (.iload_n 3, 1) := by decide +kernel
theorem dL_law_951 : decode cL_law 951 = .ok (.iconst 3, 1) := by decide +kernel
theorem dL_law_952 : decode cL_law 952 = .ok (.iadd, 1) := by decide +kernel
theorem dL_law_953 : decode cL_law 953 = .ok (.iaload, 1) := by decide +kernel
theorem dL_law_954 : decode cL_law 954 = .ok (.invokevirtual 128, 3) := by decide +kernel
theorem dL_law_957 : decode cL_law 957 = .ok (.if_icmp .eq 51, 3) := by decide +kernel
theorem dL_law_960 : decode cL_law 960 = .ok (.iconst 0, 1) := by decide +kernel
theorem dL_law_961 : decode cL_law 961 = .ok (.ireturn, 1) := by decide +kernel
theorem dL_law_962 : decode cL_law 962 = .ok (.aload_n 1, 1) := by decide +kernel
theorem dL_law_963 : decode cL_law 963 = .ok (.aload_n 0, 1) := by decide +kernel
theorem dL_law_964 : decode cL_law 964 = .ok (.iload_n 3, 1) := by decide +kernel
theorem dL_law_965 : decode cL_law 965 = .ok (.iconst 1, 1) := by decide +kernel
theorem dL_law_966 : decode cL_law 966 = .ok (.iadd, 1) := by decide +kernel
theorem dL_law_967 : decode cL_law 967 = .ok (.iaload, 1) := by decide +kernel
theorem dL_law_968 : decode cL_law 968 = .ok (.invokevirtual 129, 3) := by decide +kernel
theorem dL_law_971 : decode cL_law 971 = .ok (.aload_n 2, 1) := by decide +kernel
theorem dL_law_972 : decode cL_law 972 = .ok (.aload_n 0, 1) := by decide +kernel
theorem dL_law_973 : decode cL_law 973 = .ok (.iload_n 3, 1) := by decide +kernel
theorem dL_law_974 : decode cL_law 974 = .ok (.iconst 1, 1) := by decide +kernel
theorem dL_law_975 : decode cL_law 975 = .ok (.iadd, 1) := by decide +kernel
theorem dL_law_976 : decode cL_law 976 = .ok (.iaload, 1) := by decide +kernel
theorem dL_law_977 : decode cL_law 977 = .ok (.invokevirtual 132, 3) := by decide +kernel
theorem dL_law_980 : decode cL_law 980 = .ok (.if_icmp .eq 28, 3) := by decide +kernel
theorem dL_law_983 : decode cL_law 983 = .ok (.iconst 0, 1) := by decide +kernel
theorem dL_law_984 : decode cL_law 984 = .ok (.ireturn, 1) := by decide +kernel
theorem dL_law_985 : decode cL_law 985 = .ok (.aload_n 1, 1) := by decide +kernel
theorem dL_law_986 : decode cL_law 986 = .ok (.aload_n 0, 1) := by decide +kernel
theorem dL_law_987 : decode cL_law 987 = .ok (.iload_n 3, 1) := by decide +kernel
theorem dL_law_988 : decode cL_law 988 = .ok (.iconst 1, 1) := by decide +kernel
theorem dL_law_989 : decode cL_law 989 = .ok (.iadd, 1) := by decide +kernel
theorem dL_law_990 : decode cL_law 990 = .ok (.iaload, 1) := by decide +kernel
theorem dL_law_991 : decode cL_law 991 = .ok (.invokevirtual 133, 3) := by decide +kernel
theorem dL_law_994 : decode cL_law 994 = .ok (.aload_n 2, 1) := by decide +kernel
theorem dL_law_995 : decode cL_law 995 = .ok (.aload_n 0, 1) := by decide +kernel
theorem dL_law_996 : decode cL_law 996 = .ok (.iload_n 3, 1) := by decide +kernel
theorem dL_law_997 : decode cL_law 997 = .ok (.iconst 1, 1) := by decide +kernel
theorem dL_law_998 : decode cL_law 998 = .ok (.iadd, 1) := by decide +kernel
theorem dL_law_999 : decode cL_law 999 = .ok (.iaload, 1) := by decide +kernel
theorem dL_law_1000 : decode cL_law 1000 = .ok (.invokevirtual 136, 3) := by decide +kernel
theorem dL_law_1003 : decode cL_law 1003 = .ok (.if_icmp .eq 5, 3) := by decide +kernel
theorem dL_law_1006 : decode cL_law 1006 = .ok (.iconst 0, 1) := by decide +kernel
theorem dL_law_1007 : decode cL_law 1007 = .ok (.ireturn, 1) := by decide +kernel
theorem dL_law_1008 : decode cL_law 1008 = .ok (.iinc 3 4, 3) := by decide +kernel
theorem dL_law_1011 : decode cL_law 1011 = .ok (.goto (-993), 3) := by decide +kernel
theorem dL_law_1014 : decode cL_law 1014 = .ok (.iconst 1, 1) := by decide +kernel
theorem dL_law_1015 : decode cL_law 1015 = .ok (.ireturn, 1) := by decide +kernel
