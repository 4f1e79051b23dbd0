theorem dX0_init_0 : decode cX0_init 0 = .ok (.aload_n 0, 1) := by decide +kernel
theorem dX0_init_1 : decode cX0_init 1 = .ok (.invokespecial 3, 3) := by decide +kernel
theorem dX0_init_4 : decode cX0_init 4 = .ok (.aload_n 0, 1) := by decide +kernel
theorem dX0_init_5 : decode cX0_init 5 = .ok (.new 9, 3) := by decide +kernel
theorem dX0_init_8 : decode cX0_init 8 = .ok (.dup, 1) := by decide +kernel
theorem dX0_init_9 : decode cX0_init 9 = .ok (.bipush 10, 2) := by decide +kernel
theorem dX0_init_11 : decode cX0_init 11 = .ok (.invokespecial 11, 3) := by decide +kernel
theorem dX0_init_14 : decode cX0_init 14 = .ok (.putfield 14, 3) := by decide +kernel
theorem dX0_init_17 : decode cX0_init 17 = .ok (.aload_n 0, 1) := by decide +kernel
theorem dX0_init_18 : decode cX0_init 18 = .ok (.bipush 8, 2) := by decide +kernel
theorem dX0_init_20 : decode cX0_init 20 = .ok (.newarray .int, 2) := by decide +kernel
theorem dX0_init_22 : decode cX0_init 22 = .ok (.putfield 20, 3) := by decide +kernel
theorem dX0_init_25 : decode cX0_init 25 = .ok (.aload_n 0, 1) := by decide +kernel
theorem dX0_init_26 : decode cX0_init 26 = .ok (.new 9, 3) := by decide +kernel
theorem dX0_init_29 : decode cX0_init 29 = .ok (.dup, 1) := by decide +kernel
theorem dX0_init_30 : decode cX0_init 30 = .ok (.bipush 42, 2) := by decide +kernel
theorem dX0_init_32 : decode cX0_init 32 = .ok (.invokespecial 11, 3) := by decide +kernel
theorem dX0_init_35 : decode cX0_init 35 = .ok (.putfield 24, 3) := by decide +kernel
theorem dX0_init_38 : decode cX0_init 38 = .ok (.aload_n 0, 1) := by decide +kernel
theorem dX0_init_39 : decode cX0_init 39 = .ok (.new 9, 3) := by decide +kernel
theorem dX0_init_42 : decode cX0_init 42 = .ok (.dup, 1) := by decide +kernel
theorem dX0_init_43 : decode cX0_init 43 = .ok (.bipush 42, 2) := by decide +kernel
theorem dX0_init_45 : decode cX0_init 45 = .ok (.invokespecial 11, 3) := by decide +kernel
theorem dX0_init_48 : decode cX0_init 48 = .ok (.putfield 27, 3) := by decide +kernel
theorem dX0_init_51 : decode cX0_init 51 = .ok (.aload_n 0, 1) := by decide +kernel
theorem dX0_init_52 : decode cX0_init 52 = .ok (.new 9, 3) := by decide +kernel
theorem dX0_init_55 : decode cX0_init 55 = .ok (.dup, 1) := by decide +kernel
theorem dX0_init_56 : decode cX0_init 56 = .ok (.bipush 100, 2) := by decide +kernel
theorem dX0_init_58 : decode cX0_init 58 = .ok (.invokespecial 11, 3) := by decide +kernel
theorem dX0_init_61 : decode cX0_init 61 = .ok (.putfield 30, 3) := by decide +kernel
theorem dX0_init_64 : decode cX0_init 64 = .ok (.aload_n 0, 1) := by decide +kernel
theorem dX0_init_65 : decode cX0_init 65 = .ok (.bipush 100, 2) := by decide +kernel
theorem dX0_init_67 : decode cX0_init 67 = .ok (.newarray .int, 2) := by decide +kernel
theorem dX0_init_69 : decode cX0_init 69 = .ok (.putfield 33, 3) := by decide +kernel
theorem dX0_init_72 : decode cX0_init 72 = .ok (.aload_n 0, 1) := by decide +kernel
theorem dX0_init_73 : decode cX0_init 73 = .ok (.iconst 0, 1) := by decide +kernel
theorem dX0_init_74 : decode cX0_init 74 = .ok (.putfield 36, 3) := by decide +kernel
theorem dX0_init_77 : decode cX0_init 77 = .ok (.return_, 1) := by decide +kernel
theorem dX0_empty_0 : decode cX0_empty 0 = .ok (.aload_n 0, 1) := by decide +kernel
theorem dX0_empty_1 : decode cX0_empty 1 = .ok (.getfield 14, 3) := by decide +kernel
theorem dX0_empty_4 : decode cX0_empty 4 = .ok (.iconst 0, 1) := by decide +kernel
theorem dX0_empty_5 : decode cX0_empty 5 = .ok (.invokevirtual 40, 3) := by decide +kernel
theorem dX0_empty_8 : decode cX0_empty 8 = .ok (.aload_n 0, 1) := by decide +kernel
theorem dX0_empty_9 : decode cX0_empty 9 = .ok (.getfield 24, 3) := by decide +kernel
theorem dX0_empty_12 : decode cX0_empty 12 = .ok (.iconst 0, 1) := by decide +kernel
theorem dX0_empty_13 : decode cX0_empty 13 = .ok (.invokevirtual 40, 3) := by decide +kernel
theorem dX0_empty_16 : decode cX0_empty 16 = .ok (.aload_n 0, 1) := by decide +kernel
theorem dX0_empty_17 : decode cX0_empty 17 = .ok (.getfield 30, 3) := by decide +kernel
theorem dX0_empty_20 : decode cX0_empty 20 = .ok (.iconst 0, 1) := by decide +kernel
theorem dX0_empty_21 : decode cX0_empty 21 = .ok (.invokevirtual 40, 3) := by decide +kernel
theorem dX0_empty_24 : decode cX0_empty 24 = .ok (.aload_n 0, 1) := by decide +kernel
theorem dX0_empty_25 : decode cX0_empty 25 = .ok (.iconst 0, 1) := by decide +kernel
theorem dX0_empty_26 : decode cX0_empty 26 = .ok (.putfield 36, 3) := by decide +kernel
theorem dX0_empty_29 : decode cX0_empty 29 = .ok (.iconst 0, 1) := by decide +kernel
theorem dX0_empty_30 : decode cX0_empty 30 = .ok (.istore_n 1, 1) := by decide +kernel
theorem dX0_empty_31 : decode cX0_empty 31 = .ok (.iload_n 1, 1) := by decide +kernel
theorem dX0_empty_32 : decode cX0_empty 32 = .ok (.bipush 8, 2) := by decide +kernel
theorem dX0_empty_34 : decode cX0_empty 34 = .ok (.if_icmp .ge 16, 3) := by decide +kernel
theorem dX0_empty_37 : decode cX0_empty 37 = .ok (.aload_n 0, 1) := by decide +kernel
theorem dX0_empty_38 : decode cX0_empty 38 = .ok (.getfield 20, 3) := by decide +kernel
theorem dX0_empty_41 : decode cX0_empty 41 = .ok (.iload_n 1, 1) := by decide +kernel
theorem dX0_empty_42 : decode cX0_empty 42 = .ok (.iconst 0, 1) := by decide +kernel
theorem dX0_empty_43 : decode cX0_empty 43 = .ok (.iastore, 1) := by decide +kernel
theorem dX0_empty_44 : decode cX0_empty 44 = .ok (.iinc 1 1, 3) := by decide +kernel
theorem dX0_empty_47 : decode cX0_empty 47 = .ok (.goto (-16), 3) := by decide +kernel
theorem dX0_empty_50 : decode cX0_empty 50 = .ok (.return_, 1) := by decide +kernel
theorem dX0_saveTo_0 : decode cX0_saveTo 0 = .ok (.aload_n 1, 1) := by decide +kernel
theorem dX0_saveTo_1 : decode cX0_saveTo 1 = .ok (.aload_n 0, 1) := by decide +kernel
theorem dX0_saveTo_2 : decode cX0_saveTo 2 = .ok (.getfield 14, 3) := by decide +kernel
theorem dX0_saveTo_5 : decode cX0_saveTo 5 = .ok (.invokevirtual 43, 3) := by decide +kernel
theorem dX0_saveTo_8 : decode cX0_saveTo 8 = .ok (.putfield 47, 3) := by decide +kernel
theorem dX0_saveTo_11 : decode cX0_saveTo 11 = .ok (.aload_n 1, 1) := by decide +kernel
theorem dX0_saveTo_12 : decode cX0_saveTo 12 = .ok (.aload_n 0, 1) := by decide +kernel
theorem dX0_saveTo_13 : decode cX0_saveTo 13 = .ok (.getfield 30, 3) := by decide +kernel
theorem dX0_saveTo_16 : decode cX0_saveTo 16 = .ok (.invokevirtual 43, 3) := by decide +kernel
theorem dX0_saveTo_19 : decode cX0_saveTo 19 = .ok (.putfield 52, 3) := by decide +kernel
theorem dX0_saveTo_22 : decode cX0_saveTo 22 = .ok (.aload_n 1, 1) := by decide +kernel
theorem dX0_saveTo_23 : decode cX0_saveTo 23 = .ok (.aload_n 0, 1) := by decide +kernel
theorem dX0_saveTo_24 : decode cX0_saveTo 24 = .ok (.getfield 36, 3) := by decide +kernel
theorem dX0_saveTo_27 : decode cX0_saveTo 27 = .ok (.putfield 55, 3) := by decide +kernel
theorem dX0_saveTo_30 : decode cX0_saveTo 30 = .ok (.aload_n 1, 1) := by decide +kernel
theorem dX0_saveTo_31 : decode cX0_saveTo 31 = .ok (.getfield 56, 3) := by decide +kernel
theorem dX0_saveTo_34 : decode cX0_saveTo 34 = .ok (.aload_n 0, 1) := by decide +kernel
theorem dX0_saveTo_35 : decode cX0_saveTo 35 = .ok (.getfield 24, 3) := by decide +kernel
theorem dX0_saveTo_38 : decode cX0_saveTo 38 = .ok (.invokevirtual 57, 3) := by decide +kernel
theorem dX0_saveTo_41 : decode cX0_saveTo 41 = .ok (.aload_n 0, 1) := by decide +kernel
theorem dX0_saveTo_42 : decode cX0_saveTo 42 = .ok (.getfield 20, 3) := by decide +kernel
theorem dX0_saveTo_45 : decode cX0_saveTo 45 = .ok (.iconst 0, 1) := by decide +kernel
theorem dX0_saveTo_46 : decode cX0_saveTo 46 = .ok (.aload_n 1, 1) := by decide +kernel
theorem dX0_saveTo_47 : decode cX0_saveTo 47 = .ok (.getfield 61, 3) := by decide +kernel
theorem dX0_saveTo_50 : decode cX0_saveTo 50 = .ok (.iconst 0, 1) := by decide +kernel
theorem dX0_saveTo_51 : decode cX0_saveTo 51 = .ok (.bipush 8, 2) := by decide +kernel
theorem dX0_saveTo_53 : decode cX0_saveTo 53 = .ok (.invokestatic 62, 3) := by decide +kernel
theorem dX0_saveTo_56 : decode cX0_saveTo 56 = .ok (.return_, 1) := by decide +kernel
theorem dX0_restoreFrom_0 : decode cX0_restoreFrom 0 = .ok (.aload_n 0, 1) := by decide +kernel
theorem dX0_restoreFrom_1 : decode cX0_restoreFrom 1 = .ok (.getfield 14, 3) := by decide +kernel
theorem dX0_restoreFrom_4 : decode cX0_restoreFrom 4 = .ok (.aload_n 1, 1) := by decide +kernel
theorem dX0_restoreFrom_5 : decode cX0_restoreFrom 5 = .ok (.getfield 47, 3) := by decide +kernel
theorem dX0_restoreFrom_8 : decode cX0_restoreFrom 8 = .ok (.invokevirtual 40, 3) := by decide +kernel
theorem dX0_restoreFrom_11 : decode cX0_restoreFrom 11 = .ok (.aload_n 0, 1) := by decide +kernel
theorem dX0_restoreFrom_12 : decode cX0_restoreFrom 12 = .ok (.getfield 30, 3) := by decide +kernel
theorem dX0_restoreFrom_15 : decode cX0_restoreFrom 15 = .ok (.aload_n 1, 1) := by decide +kernel
theorem dX0_restoreFrom_16 : decode cX0_restoreFrom 16 = .ok (.getfield 52, 3) := by decide +kernel
theorem dX0_restoreFrom_19 : decode cX0_restoreFrom 19 = .ok (.invokevirtual 40, 3) := by decide +kernel
theorem dX0_restoreFrom_22 : decode cX0_restoreFrom 22 = .ok (.aload_n 0, 1) := by decide +kernel
theorem dX0_restoreFrom_23 : decode cX0_restoreFrom 23 = .ok (.aload_n 1, 1) := by decide +kernel
theorem dX0_restoreFrom_24 : decode cX0_restoreFrom 24 = .ok (.getfield 55, 3) := by decide +kernel
theorem dX0_restoreFrom_27 : decode cX0_restoreFrom 27 = .ok (.putfield 36, 3) := by decide +kernel
theorem dX0_restoreFrom_30 : decode cX0_restoreFrom 30 = .ok (.aload_n 0, 1) := by decide +kernel
theorem dX0_restoreFrom_31 : decode cX0_restoreFrom 31 = .ok (.getfield 24, 3) := by decide +kernel
theorem dX0_restoreFrom_34 : decode cX0_restoreFrom 34 = .ok (.aload_n 1, 1) := by decide +kernel
theorem dX0_restoreFrom_35 : decode cX0_restoreFrom 35 = .ok (.getfield 56, 3) := by decide +kernel
theorem dX0_restoreFrom_38 : decode cX0_restoreFrom 38 = .ok (.invokevirtual 57, 3) := by decide +kernel
theorem dX0_restoreFrom_41 : decode cX0_restoreFrom 41 = .ok (.aload_n 1, 1) := by decide +kernel
theorem dX0_restoreFrom_42 : decode cX0_restoreFrom 42 = .ok (.getfield 61, 3) := by decide +kernel
theorem dX0_restoreFrom_45 : decode cX0_restoreFrom 45 = .ok (.iconst 0, 1) := by decide +kernel
theorem dX0_restoreFrom_46 : decode cX0_restoreFrom 46 = .ok (.aload_n 0, 1) := by decide +kernel
theorem dX0_restoreFrom_47 : decode cX0_restoreFrom 47 = .ok (.getfield 20, 3) := by decide +kernel
theorem dX0_restoreFrom_50 : decode cX0_restoreFrom 50 = .ok (.iconst 0, 1) := by decide +kernel
theorem dX0_restoreFrom_51 : decode cX0_restoreFrom 51 = .ok (.bipush 8, 2) := by decide +kernel
theorem dX0_restoreFrom_53 : decode cX0_restoreFrom 53 = .ok (.invokestatic 62, 3) := by decide +kernel
theorem dX0_restoreFrom_56 : decode cX0_restoreFrom 56 = .ok (.return_, 1) := by decide +kernel
theorem dX0_addSeries_0 : decode cX0_addSeries 0 = .ok (.iload_n 1, 1) := by decide +kernel
theorem dX0_addSeries_1 : decode cX0_addSeries 1 = .ok (.iconst (-1), 1) := by decide +kernel
theorem dX0_addSeries_2 : decode cX0_addSeries 2 = .ok (.if_icmp .eq 14, 3) := by decide +kernel
theorem dX0_addSeries_5 : decode cX0_addSeries 5 = .ok (.aload_n 0, 1) := by decide +kernel
theorem dX0_addSeries_6 : decode cX0_addSeries 6 = .ok (.iload_n 1, 1) := by decide +kernel
theorem dX0_addSeries_7 : decode cX0_addSeries 7 = .ok (.invokevirtual 68, 3) := by decide +kernel
theorem dX0_addSeries_10 : decode cX0_addSeries 10 = .ok (.ifCond .ne 6, 3) := by decide +kernel
theorem dX0_addSeries_13 : decode cX0_addSeries 13 = .ok (.bipush (-2), 2) := by decide +kernel
theorem dX0_addSeries_15 : decode cX0_addSeries 15 = .ok (.ireturn, 1) := by decide +kernel
theorem dX0_addSeries_16 : decode cX0_addSeries 16 = .ok (.iload_n 2, 1) := by decide +kernel
theorem dX0_addSeries_17 : decode cX0_addSeries 17 = .ok (.iload_n 3, 1) := by decide +kernel
theorem dX0_addSeries_18 : decode cX0_addSeries 18 = .ok (.invokestatic 72, 3) := by decide +kernel
theorem dX0_addSeries_21 : decode cX0_addSeries 21 = .ok (.ifCond .ne 6, 3) := by decide +kernel
theorem dX0_addSeries_24 : decode cX0_addSeries 24 = .ok (.bipush (-3), 2) := by decide +kernel
theorem dX0_addSeries_26 : decode cX0_addSeries 26 = .ok (.ireturn, 1) := by decide +kernel
theorem dX0_addSeries_27 : decode cX0_addSeries 27 = .ok (.iload_n 2, 1) := by decide +kernel
theorem dX0_addSeries_28 : decode cX0_addSeries 28 = .ok (.aload_n 0, 1) := by decide +kernel
theorem dX0_addSeries_29 : decode cX0_addSeries 29 = .ok (.iload_n 1, 1) := by decide +kernel
theorem dX0_addSeries_30 : decode cX0_addSeries 30 = .ok (.invokevirtual 76, 3) := by decide +kernel
theorem dX0_addSeries_33 : decode cX0_addSeries 33 = .ok (.if_icmp .lt 25, 3) := by decide +kernel
theorem dX0_addSeries_36 : decode cX0_addSeries 36 = .ok (.iload_n 3, 1) := by decide +kernel
theorem dX0_addSeries_37 : decode cX0_addSeries 37 = .ok (.aload_n 0, 1) := by decide +kernel
theorem dX0_addSeries_38 : decode cX0_addSeries 38 = .ok (.iload_n 1, 1) := by decide +kernel
theorem dX0_addSeries_39 : decode cX0_addSeries 39 = .ok (.invokevirtual 80, 3) := by decide +kernel
theorem dX0_addSeries_42 : decode cX0_addSeries 42 = .ok (.if_icmp .gt 16, 3) := by decide +kernel
theorem dX0_addSeries_45 : decode cX0_addSeries 45 = .ok (.aload_n 0, 1) := by decide +kernel
theorem dX0_addSeries_46 : decode cX0_addSeries 46 = .ok (.getfield 14, 3) := by decide +kernel
theorem dX0_addSeries_49 : decode cX0_addSeries 49 = .ok (.iload_n 1, 1) := by decide +kernel
theorem dX0_addSeries_50 : decode cX0_addSeries 50 = .ok (.iload_n 2, 1) := by decide +kernel
theorem dX0_addSeries_51 : decode cX0_addSeries 51 = .ok (.iload_n 3, 1) := by decide +kernel
theorem dX0_addSeries_52 : decode cX0_addSeries 52 = .ok (.invokevirtual 83, 3) := by decide +kernel
theorem dX0_addSeries_55 : decode cX0_addSeries 55 = .ok (.ifCond .le 6, 3) := by decide +kernel
theorem dX0_addSeries_58 : decode cX0_addSeries 58 = .ok (.bipush (-4), 2) := by decide +kernel
theorem dX0_addSeries_60 : decode cX0_addSeries 60 = .ok (.ireturn, 1) := by decide +kernel
theorem dX0_addSeries_61 : decode cX0_addSeries 61 = .ok (.aload_n 0, 1) := by decide +kernel
theorem dX0_addSeries_62 : decode cX0_addSeries 62 = .ok (.getfield 14, 3) := by decide +kernel
theorem dX0_addSeries_65 : decode cX0_addSeries 65 = .ok (.iload_n 1, 1) := by decide +kernel
theorem dX0_addSeries_66 : decode cX0_addSeries 66 = .ok (.iload_n 2, 1) := by decide +kernel
theorem dX0_addSeries_67 : decode cX0_addSeries 67 = .ok (.iload_n 3, 1) := by decide +kernel
theorem dX0_addSeries_68 : decode cX0_addSeries 68 = .ok (.invokevirtual 87, 3) := by decide +kernel
theorem dX0_addSeries_71 : decode cX0_addSeries 71 = .ok (.ifCond .eq 15, 3) := by decide +kernel
theorem dX0_addSeries_74 : decode cX0_addSeries 74 = .ok (.aload_n 0, 1) := by decide +kernel
theorem dX0_addSeries_75 : decode cX0_addSeries 75 = .ok (.getfield 14, 3) := by decide +kernel
theorem dX0_addSeries_78 : decode cX0_addSeries 78 = .ok (.invokevirtual 43, 3) := by decide +kernel
theorem dX0_addSeries_81 : decode cX0_addSeries 81 = .ok (.iconst 1, 1) := by decide +kernel
theorem dX0_addSeries_82 : decode cX0_addSeries 82 = .ok (.isub, 1) := by decide +kernel
theorem dX0_addSeries_83 : decode cX0_addSeries 83 = .ok (.goto 5, 3) := by decide +kernel
theorem dX0_addSeries_86 : decode cX0_addSeries 86 = .ok (.bipush (-5), 2) := by decide +kernel
theorem dX0_addSeries_88 : decode cX0_addSeries 88 = .ok (.ireturn, 1) := by decide +kernel
theorem dX0_setRoom_0 : decode cX0_setRoom 0 = .ok (.iload_n 1, 1) := by decide +kernel
theorem dX0_setRoom_1 : decode cX0_setRoom 1 = .ok (.invokestatic 91, 3) := by decide +kernel
theorem dX0_setRoom_4 : decode cX0_setRoom 4 = .ok (.ifCond .ne 6, 3) := by decide +kernel
theorem dX0_setRoom_7 : decode cX0_setRoom 7 = .ok (.bipush (-2), 2) := by decide +kernel
theorem dX0_setRoom_9 : decode cX0_setRoom 9 = .ok (.ireturn, 1) := by decide +kernel
theorem dX0_setRoom_10 : decode cX0_setRoom 10 = .ok (.iload_n 2, 1) := by decide +kernel
theorem dX0_setRoom_11 : decode cX0_setRoom 11 = .ok (.ifCond .lt 9, 3) := by decide +kernel
theorem dX0_setRoom_14 : decode cX0_setRoom 14 = .ok (.iload_n 2, 1) := by decide +kernel
theorem dX0_setRoom_15 : decode cX0_setRoom 15 = .ok (.ldc 94, 2) := by decide +kernel
theorem dX0_setRoom_17 : decode cX0_setRoom 17 = .ok (.if_icmp .le 6, 3) := by decide +kernel
theorem dX0_setRoom_20 : decode cX0_setRoom 20 = .ok (.bipush (-3), 2) := by decide +kernel
theorem dX0_setRoom_22 : decode cX0_setRoom 22 = .ok (.ireturn, 1) := by decide +kernel
theorem dX0_setRoom_23 : decode cX0_setRoom 23 = .ok (.aload_n 0, 1) := by decide +kernel
theorem dX0_setRoom_24 : decode cX0_setRoom 24 = .ok (.iload_n 1, 1) := by decide +kernel
theorem dX0_setRoom_25 : decode cX0_setRoom 25 = .ok (.invokevirtual 95, 3) := by decide +kernel
theorem dX0_setRoom_28 : decode cX0_setRoom 28 = .ok (.iload_n 2, 1) := by decide +kernel
theorem dX0_setRoom_29 : decode cX0_setRoom 29 = .ok (.if_icmp .le 6, 3) := by decide +kernel
theorem dX0_setRoom_32 : decode cX0_setRoom 32 = .ok (.bipush (-4), 2) := by decide +kernel
theorem dX0_setRoom_34 : decode cX0_setRoom 34 = .ok (.ireturn, 1) := by decide +kernel
theorem dX0_setRoom_35 : decode cX0_setRoom 35 = .ok (.aload_n 0, 1) := by decide +kernel
theorem dX0_setRoom_36 : decode cX0_setRoom 36 = .ok (.getfield 20, 3) := by decide +kernel
theorem dX0_setRoom_39 : decode cX0_setRoom 39 = .ok (.iload_n 1, 1) := by decide +kernel
theorem dX0_setRoom_40 : decode cX0_setRoom 40 = .ok (.iaload, 1) := by decide +kernel
theorem dX0_setRoom_41 : decode cX0_setRoom 41 = .ok (.istore_n 3, 1) := by decide +kernel
theorem dX0_setRoom_42 : decode cX0_setRoom 42 = .ok (.aload_n 0, 1) := by decide +kernel
theorem dX0_setRoom_43 : decode cX0_setRoom 43 = .ok (.getfield 20, 3) := by decide +kernel
theorem dX0_setRoom_46 : decode cX0_setRoom 46 = .ok (.iload_n 1, 1) := by decide +kernel
theorem dX0_setRoom_47 : decode cX0_setRoom 47 = .ok (.iload_n 2, 1) := by decide +kernel
theorem dX0_setRoom_48 : decode cX0_setRoom 48 = .ok (.iastore, 1) := by decide +kernel
theorem dX0_setRoom_49 : decode cX0_setRoom 49 = .ok (.iload_n 3, 1) := by decide +kernel
theorem dX0_setRoom_50 : decode cX0_setRoom 50 = .ok (.ireturn, 1) := by decide +kernel
theorem dX0_layInto_0 : decode cX0_layInto 0 = .ok (.iload_n 1, 1) := by decide +kernel
theorem dX0_layInto_1 : decode cX0_layInto 1 = .ok (.invokestatic 91, 3) := by decide +kernel
theorem dX0_layInto_4 : decode cX0_layInto 4 = .ok (.ifCond .ne 6, 3) := by decide +kernel
theorem dX0_layInto_7 : decode cX0_layInto 7 = .ok (.bipush (-2), 2) := by decide +kernel
theorem dX0_layInto_9 : decode cX0_layInto 9 = .ok (.ireturn, 1) := by decide +kernel
theorem dX0_layInto_10 : decode cX0_layInto 10 = .ok (.iload_n 2, 1) := by decide +kernel
theorem dX0_layInto_11 : decode cX0_layInto 11 = .ok (.iload_n 3, 1) := by decide +kernel
theorem dX0_layInto_12 : decode cX0_layInto 12 = .ok (.invokestatic 72, 3) := by decide +kernel
theorem dX0_layInto_15 : decode cX0_layInto 15 = .ok (.ifCond .ne 6, 3) := by decide +kernel
theorem dX0_layInto_18 : decode cX0_layInto 18 = .ok (.bipush (-3), 2) := by decide +kernel
theorem dX0_layInto_20 : decode cX0_layInto 20 = .ok (.ireturn, 1) := by decide +kernel
theorem dX0_layInto_21 : decode cX0_layInto 21 = .ok (.iload_n 3, 1) := by decide +kernel
theorem dX0_layInto_22 : decode cX0_layInto 22 = .ok (.iload_n 2, 1) := by decide +kernel
theorem dX0_layInto_23 : decode cX0_layInto 23 = .ok (.isub, 1) := by decide +kernel
theorem dX0_layInto_24 : decode cX0_layInto 24 = .ok (.iconst 1, 1) := by decide +kernel
theorem dX0_layInto_25 : decode cX0_layInto 25 = .ok (.iadd, 1) := by decide +kernel
theorem dX0_layInto_26 : decode cX0_layInto 26 = .ok (.aload_n 0, 1) := by decide +kernel
theorem dX0_layInto_27 : decode cX0_layInto 27 = .ok (.getfield 24, 3) := by decide +kernel
theorem dX0_layInto_30 : decode cX0_layInto 30 = .ok (.iload_n 1, 1) := by decide +kernel
theorem dX0_layInto_31 : decode cX0_layInto 31 = .ok (.iload_n 2, 1) := by decide +kernel
theorem dX0_layInto_32 : decode cX0_layInto 32 = .ok (.iload_n 3, 1) := by decide +kernel
theorem dX0_layInto_33 : decode cX0_layInto 33 = .ok (.invokevirtual 83, 3) := by decide +kernel
theorem dX0_layInto_36 : decode cX0_layInto 36 = .ok (.isub, 1) := by decide +kernel
theorem dX0_layInto_37 : decode cX0_layInto 37 = .ok (.istore 4, 2) := by decide +kernel
theorem dX0_layInto_39 : decode cX0_layInto 39 = .ok (.iload 4, 2) := by decide +kernel
theorem dX0_layInto_41 : decode cX0_layInto 41 = .ok (.aload_n 0, 1) := by decide +kernel
theorem dX0_layInto_42 : decode cX0_layInto 42 = .ok (.iload_n 1, 1) := by decide +kernel
theorem dX0_layInto_43 : decode cX0_layInto 43 = .ok (.invokevirtual 98, 3) := by decide +kernel
theorem dX0_layInto_46 : decode cX0_layInto 46 = .ok (.if_icmp .le 6, 3) := by decide +kernel
theorem dX0_layInto_49 : decode cX0_layInto 49 = .ok (.bipush (-5), 2) := by decide +kernel
theorem dX0_layInto_51 : decode cX0_layInto 51 = .ok (.ireturn, 1) := by decide +kernel
theorem dX0_layInto_52 : decode cX0_layInto 52 = .ok (.aload_n 0, 1) := by decide +kernel
theorem dX0_layInto_53 : decode cX0_layInto 53 = .ok (.iload_n 1, 1) := by decide +kernel
theorem dX0_layInto_54 : decode cX0_layInto 54 = .ok (.iload_n 2, 1) := by decide +kernel
theorem dX0_layInto_55 : decode cX0_layInto 55 = .ok (.iload_n 3, 1) := by decide +kernel
theorem dX0_layInto_56 : decode cX0_layInto 56 = .ok (.invokevirtual 101, 3) := by decide +kernel
theorem dX0_layInto_59 : decode cX0_layInto 59 = .ok (.ifCond .eq 8, 3) := by decide +kernel
theorem dX0_layInto_62 : decode cX0_layInto 62 = .ok (.iload 4, 2) := by decide +kernel
theorem dX0_layInto_64 : decode cX0_layInto 64 = .ok (.goto 5, 3) := by decide +kernel
theorem dX0_layInto_67 : decode cX0_layInto 67 = .ok (.bipush (-5), 2) := by decide +kernel
theorem dX0_layInto_69 : decode cX0_layInto 69 = .ok (.ireturn, 1) := by decide +kernel
theorem dX0_takeOut_0 : decode cX0_takeOut 0 = .ok (.iload_n 1, 1) := by decide +kernel
theorem dX0_takeOut_1 : decode cX0_takeOut 1 = .ok (.iload_n 2, 1) := by decide +kernel
theorem dX0_takeOut_2 : decode cX0_takeOut 2 = .ok (.invokestatic 72, 3) := by decide +kernel
theorem dX0_takeOut_5 : decode cX0_takeOut 5 = .ok (.ifCond .ne 6, 3) := by decide +kernel
theorem dX0_takeOut_8 : decode cX0_takeOut 8 = .ok (.bipush (-3), 2) := by decide +kernel
theorem dX0_takeOut_10 : decode cX0_takeOut 10 = .ok (.ireturn, 1) := by decide +kernel
theorem dX0_takeOut_11 : decode cX0_takeOut 11 = .ok (.aload_n 0, 1) := by decide +kernel
theorem dX0_takeOut_12 : decode cX0_takeOut 12 = .ok (.getfield 24, 3) := by decide +kernel
theorem dX0_takeOut_15 : decode cX0_takeOut 15 = .ok (.bipush (-100), 2) := by decide +kernel
theorem dX0_takeOut_17 : decode cX0_takeOut 17 = .ok (.iload_n 1, 1) := by decide +kernel
theorem dX0_takeOut_18 : decode cX0_takeOut 18 = .ok (.iload_n 2, 1) := by decide +kernel
theorem dX0_takeOut_19 : decode cX0_takeOut 19 = .ok (.invokevirtual 83, 3) := by decide +kernel
theorem dX0_takeOut_22 : decode cX0_takeOut 22 = .ok (.istore_n 3, 1) := by decide +kernel
theorem dX0_takeOut_23 : decode cX0_takeOut 23 = .ok (.aload_n 0, 1) := by decide +kernel
theorem dX0_takeOut_24 : decode cX0_takeOut 24 = .ok (.iconst (-1), 1) := by decide +kernel
theorem dX0_takeOut_25 : decode cX0_takeOut 25 = .ok (.iload_n 1, 1) := by decide +kernel
theorem dX0_takeOut_26 : decode cX0_takeOut 26 = .ok (.iload_n 2, 1) := by decide +kernel
theorem dX0_takeOut_27 : decode cX0_takeOut 27 = .ok (.invokevirtual 101, 3) := by decide +kernel
theorem dX0_takeOut_30 : decode cX0_takeOut 30 = .ok (.ifCond .eq 7, 3) := by decide +kernel
theorem dX0_takeOut_33 : decode cX0_takeOut 33 = .ok (.iload_n 3, 1) := by decide +kernel
theorem dX0_takeOut_34 : decode cX0_takeOut 34 = .ok (.goto 5, 3) := by decide +kernel
theorem dX0_takeOut_37 : decode cX0_takeOut 37 = .ok (.bipush (-5), 2) := by decide +kernel
theorem dX0_takeOut_39 : decode cX0_takeOut 39 = .ok (.ireturn, 1) := by decide +kernel
theorem dX0_bring_0 : decode cX0_bring 0 = .ok (.aload_n 0, 1) := by decide +kernel
theorem dX0_bring_1 : decode cX0_bring 1 = .ok (.getfield 30, 3) := by decide +kernel
theorem dX0_bring_4 : decode cX0_bring 4 = .ok (.invokevirtual 43, 3) := by decide +kernel
theorem dX0_bring_7 : decode cX0_bring 7 = .ok (.bipush 100, 2) := by decide +kernel
theorem dX0_bring_9 : decode cX0_bring 9 = .ok (.if_icmp .lt 5, 3) := by decide +kernel
theorem dX0_bring_12 : decode cX0_bring 12 = .ok (.iconst 0, 1) := by decide +kernel
theorem dX0_bring_13 : decode cX0_bring 13 = .ok (.ireturn, 1) := by decide +kernel
theorem dX0_bring_14 : decode cX0_bring 14 = .ok (.aload_n 0, 1) := by decide +kernel
theorem dX0_bring_15 : decode cX0_bring 15 = .ok (.getfield 27, 3) := by decide +kernel
theorem dX0_bring_18 : decode cX0_bring 18 = .ok (.aload_n 0, 1) := by decide +kernel
theorem dX0_bring_19 : decode cX0_bring 19 = .ok (.getfield 24, 3) := by decide +kernel
theorem dX0_bring_22 : decode cX0_bring 22 = .ok (.iload_n 1, 1) := by decide +kernel
theorem dX0_bring_23 : decode cX0_bring 23 = .ok (.iload_n 2, 1) := by decide +kernel
theorem dX0_bring_24 : decode cX0_bring 24 = .ok (.iload_n 3, 1) := by decide +kernel
theorem dX0_bring_25 : decode cX0_bring 25 = .ok (.invokevirtual 104, 3) := by decide +kernel
theorem dX0_bring_28 : decode cX0_bring 28 = .ok (.aload_n 0, 1) := by decide +kernel
theorem dX0_bring_29 : decode cX0_bring 29 = .ok (.getfield 27, 3) := by decide +kernel
theorem dX0_bring_32 : decode cX0_bring 32 = .ok (.invokevirtual 43, 3) := by decide +kernel
theorem dX0_bring_35 : decode cX0_bring 35 = .ok (.bipush 40, 2) := by decide +kernel
theorem dX0_bring_37 : decode cX0_bring 37 = .ok (.if_icmp .le 5, 3) := by decide +kernel
theorem dX0_bring_40 : decode cX0_bring 40 = .ok (.iconst 0, 1) := by decide +kernel
theorem dX0_bring_41 : decode cX0_bring 41 = .ok (.ireturn, 1) := by decide +kernel
theorem dX0_bring_42 : decode cX0_bring 42 = .ok (.aload_n 0, 1) := by decide +kernel
theorem dX0_bring_43 : decode cX0_bring 43 = .ok (.getfield 24, 3) := by decide +kernel
theorem dX0_bring_46 : decode cX0_bring 46 = .ok (.aload_n 0, 1) := by decide +kernel
theorem dX0_bring_47 : decode cX0_bring 47 = .ok (.getfield 27, 3) := by decide +kernel
theorem dX0_bring_50 : decode cX0_bring 50 = .ok (.invokevirtual 57, 3) := by decide +kernel
theorem dX0_bring_53 : decode cX0_bring 53 = .ok (.aload_n 0, 1) := by decide +kernel
theorem dX0_bring_54 : decode cX0_bring 54 = .ok (.iload_n 1, 1) := by decide +kernel
theorem dX0_bring_55 : decode cX0_bring 55 = .ok (.iload_n 2, 1) := by decide +kernel
theorem dX0_bring_56 : decode cX0_bring 56 = .ok (.iload_n 3, 1) := by decide +kernel
theorem dX0_bring_57 : decode cX0_bring 57 = .ok (.invokevirtual 108, 3) := by decide +kernel
theorem dX0_bring_60 : decode cX0_bring 60 = .ok (.iconst 1, 1) := by decide +kernel
theorem dX0_bring_61 : decode cX0_bring 61 = .ok (.ireturn, 1) := by decide +kernel
theorem dX0_enter_0 : decode cX0_enter 0 = .ok (.aload_n 0, 1) := by decide +kernel
theorem dX0_enter_1 : decode cX0_enter 1 = .ok (.getfield 30, 3) := by decide +kernel
theorem dX0_enter_4 : decode cX0_enter 4 = .ok (.invokevirtual 43, 3) := by decide +kernel
theorem dX0_enter_7 : decode cX0_enter 7 = .ok (.istore 4, 2) := by decide +kernel
theorem dX0_enter_9 : decode cX0_enter 9 = .ok (.iload 4, 2) := by decide +kernel
theorem dX0_enter_11 : decode cX0_enter 11 = .ok (.bipush 100, 2) := by decide +kernel
theorem dX0_enter_13 : decode cX0_enter 13 = .ok (.if_icmp .ge 25, 3) := by decide +kernel
theorem dX0_enter_16 : decode cX0_enter 16 = .ok (.aload_n 0, 1) := by decide +kernel
theorem dX0_enter_17 : decode cX0_enter 17 = .ok (.getfield 33, 3) := by decide +kernel
theorem dX0_enter_20 : decode cX0_enter 20 = .ok (.iload 4, 2) := by decide +kernel
theorem dX0_enter_22 : decode cX0_enter 22 = .ok (.aload_n 0, 1) := by decide +kernel
theorem dX0_enter_23 : decode cX0_enter 23 = .ok (.getfield 36, 3) := by decide +kernel
theorem dX0_enter_26 : decode cX0_enter 26 = .ok (.iastore, 1) := by decide +kernel
theorem dX0_enter_27 : decode cX0_enter 27 = .ok (.aload_n 0, 1) := by decide +kernel
theorem dX0_enter_28 : decode cX0_enter 28 = .ok (.getfield 30, 3) := by decide +kernel
theorem dX0_enter_31 : decode cX0_enter 31 = .ok (.iload_n 1, 1) := by decide +kernel
theorem dX0_enter_32 : decode cX0_enter 32 = .ok (.iload_n 2, 1) := by decide +kernel
theorem dX0_enter_33 : decode cX0_enter 33 = .ok (.iload_n 3, 1) := by decide +kernel
theorem dX0_enter_34 : decode cX0_enter 34 = .ok (.invokevirtual 87, 3) := by decide +kernel
theorem dX0_enter_37 : decode cX0_enter 37 = .ok (.pop, 1) := by decide +kernel
theorem dX0_enter_38 : decode cX0_enter 38 = .ok (.return_, 1) := by decide +kernel
theorem dX0_shiftAll_0 : decode cX0_shiftAll 0 = .ok (.iload_n 1, 1) := by decide +kernel
theorem dX0_shiftAll_1 : decode cX0_shiftAll 1 = .ok (.invokestatic 91, 3) := by decide +kernel
theorem dX0_shiftAll_4 : decode cX0_shiftAll 4 = .ok (.ifCond .eq 15, 3) := by decide +kernel
theorem dX0_shiftAll_7 : decode cX0_shiftAll 7 = .ok (.iload_n 2, 1) := by decide +kernel
theorem dX0_shiftAll_8 : decode cX0_shiftAll 8 = .ok (.invokestatic 91, 3) := by decide +kernel
theorem dX0_shiftAll_11 : decode cX0_shiftAll 11 = .ok (.ifCond .eq 8, 3) := by decide +kernel
theorem dX0_shiftAll_14 : decode cX0_shiftAll 14 = .ok (.iload_n 1, 1) := by decide +kernel
theorem dX0_shiftAll_15 : decode cX0_shiftAll 15 = .ok (.iload_n 2, 1) := by decide +kernel
theorem dX0_shiftAll_16 : decode cX0_shiftAll 16 = .ok (.if_icmp .ne 6, 3) := by decide +kernel
theorem dX0_shiftAll_19 : decode cX0_shiftAll 19 = .ok (.bipush (-2), 2) := by decide +kernel
theorem dX0_shiftAll_21 : decode cX0_shiftAll 21 = .ok (.ireturn, 1) := by decide +kernel
theorem dX0_shiftAll_22 : decode cX0_shiftAll 22 = .ok (.aload_n 0, 1) := by decide +kernel
theorem dX0_shiftAll_23 : decode cX0_shiftAll 23 = .ok (.getfield 24, 3) := by decide +kernel
theorem dX0_shiftAll_26 : decode cX0_shiftAll 26 = .ok (.iload_n 1, 1) := by decide +kernel
theorem dX0_shiftAll_27 : decode cX0_shiftAll 27 = .ok (.invokevirtual 112, 3) := by decide +kernel
theorem dX0_shiftAll_30 : decode cX0_shiftAll 30 = .ok (.istore_n 3, 1) := by decide +kernel
theorem dX0_shiftAll_31 : decode cX0_shiftAll 31 = .ok (.aload_n 0, 1) := by decide +kernel
theorem dX0_shiftAll_32 : decode cX0_shiftAll 32 = .ok (.iload_n 1, 1) := by decide +kernel
theorem dX0_shiftAll_33 : decode cX0_shiftAll 33 = .ok (.invokevirtual 95, 3) := by decide +kernel
theorem dX0_shiftAll_36 : decode cX0_shiftAll 36 = .ok (.aload_n 0, 1) := by decide +kernel
theorem dX0_shiftAll_37 : decode cX0_shiftAll 37 = .ok (.iload_n 2, 1) := by decide +kernel
theorem dX0_shiftAll_38 : decode cX0_shiftAll 38 = .ok (.invokevirtual 98, 3) := by decide +kernel
theorem dX0_shiftAll_41 : decode cX0_shiftAll 41 = .ok (.if_icmp .gt 17, 3) := by decide +kernel
theorem dX0_shiftAll_44 : decode cX0_shiftAll 44 = .ok (.aload_n 0, 1) := by decide +kernel
theorem dX0_shiftAll_45 : decode cX0_shiftAll 45 = .ok (.getfield 30, 3) := by decide +kernel
theorem dX0_shiftAll_48 : decode cX0_shiftAll 48 = .ok (.invokevirtual 43, 3) := by decide +kernel
theorem dX0_shiftAll_51 : decode cX0_shiftAll 51 = .ok (.iload_n 3, 1) := by decide +kernel
theorem dX0_shiftAll_52 : decode cX0_shiftAll 52 = .ok (.iadd, 1) := by decide +kernel
theorem dX0_shiftAll_53 : decode cX0_shiftAll 53 = .ok (.bipush 100, 2) := by decide +kernel
theorem dX0_shiftAll_55 : decode cX0_shiftAll 55 = .ok (.if_icmp .le 6, 3) := by decide +kernel
theorem dX0_shiftAll_58 : decode cX0_shiftAll 58 = .ok (.bipush (-5), 2) := by decide +kernel
theorem dX0_shiftAll_60 : decode cX0_shiftAll 60 = .ok (.ireturn, 1) := by decide +kernel
theorem dX0_shiftAll_61 : decode cX0_shiftAll 61 = .ok (.iconst 0, 1) := by decide +kernel
theorem dX0_shiftAll_62 : decode cX0_shiftAll 62 = .ok (.istore 4, 2) := by decide +kernel
theorem dX0_shiftAll_64 : decode cX0_shiftAll 64 = .ok (.iload 4, 2) := by decide +kernel
theorem dX0_shiftAll_66 : decode cX0_shiftAll 66 = .ok (.aload_n 0, 1) := by decide +kernel
theorem dX0_shiftAll_67 : decode cX0_shiftAll 67 = .ok (.getfield 24, 3) := by decide +kernel
theorem dX0_shiftAll_70 : decode cX0_shiftAll 70 = .ok (.invokevirtual 43, 3) := by decide +kernel
theorem dX0_shiftAll_73 : decode cX0_shiftAll 73 = .ok (.if_icmp .ge 45, 3) := by decide +kernel
theorem dX0_shiftAll_76 : decode cX0_shiftAll 76 = .ok (.aload_n 0, 1) := by decide +kernel
theorem dX0_shiftAll_77 : decode cX0_shiftAll 77 = .ok (.getfield 24, 3) := by decide +kernel
theorem dX0_shiftAll_80 : decode cX0_shiftAll 80 = .ok (.iload 4, 2) := by decide +kernel
theorem dX0_shiftAll_82 : decode cX0_shiftAll 82 = .ok (.invokevirtual 115, 3) := by decide +kernel
theorem dX0_shiftAll_85 : decode cX0_shiftAll 85 = .ok (.iload_n 1, 1) := by decide +kernel
theorem dX0_shiftAll_86 : decode cX0_shiftAll 86 = .ok (.if_icmp .ne 26, 3) := by decide +kernel
theorem dX0_shiftAll_89 : decode cX0_shiftAll 89 = .ok (.aload_n 0, 1) := by decide +kernel
theorem dX0_shiftAll_90 : decode cX0_shiftAll 90 = .ok (.iload_n 2, 1) := by decide +kernel
theorem dX0_shiftAll_91 : decode cX0_shiftAll 91 = .ok (.aload_n 0, 1) := by decide +kernel
theorem dX0_shiftAll_92 : decode cX0_shiftAll 92 = .ok (.getfield 24, 3) := by decide +kernel
theorem dX0_shiftAll_95 : decode cX0_shiftAll 95 = .ok (.iload 4, 2) := by decide +kernel
theorem dX0_shiftAll_97 : decode cX0_shiftAll 97 = .ok (.invokevirtual 118, 3) := by decide +kernel
theorem dX0_shiftAll_100 : decode cX0_shiftAll 100 = .ok (.aload_n 0, 1) := by decide +kernel
theorem dX0_shiftAll_101 : decode cX0_shiftAll 101 = .ok (.getfield 24, 3) := by decide +kernel
theorem dX0_shiftAll_104 : decode cX0_shiftAll 104 = .ok (.iload 4, 2) := by decide +kernel
theorem dX0_shiftAll_106 : decode cX0_shiftAll 106 = .ok (.invokevirtual 121, 3) := by decide +kernel
theorem dX0_shiftAll_109 : decode cX0_shiftAll 109 = .ok (.invokevirtual 108, 3) := by decide +kernel
theorem dX0_shiftAll_112 : decode cX0_shiftAll 112 = .ok (.iinc 4 1, 3) := by decide +kernel
theorem dX0_shiftAll_115 : decode cX0_shiftAll 115 = .ok (.goto (-51), 3) := by decide +kernel
theorem dX0_shiftAll_118 : decode cX0_shiftAll 118 = .ok (.aload_n 0, 1) := by decide +kernel
theorem dX0_shiftAll_119 : decode cX0_shiftAll 119 = .ok (.getfield 27, 3) := by decide +kernel
theorem dX0_shiftAll_122 : decode cX0_shiftAll 122 = .ok (.aload_n 0, 1) := by decide +kernel
theorem dX0_shiftAll_123 : decode cX0_shiftAll 123 = .ok (.getfield 24, 3) := by decide +kernel
theorem dX0_shiftAll_126 : decode cX0_shiftAll 126 = .ok (.iload_n 1, 1) := by decide +kernel
theorem dX0_shiftAll_127 : decode cX0_shiftAll 127 = .ok (.iload_n 2, 1) := by decide +kernel
theorem dX0_shiftAll_128 : decode cX0_shiftAll 128 = .ok (.invokevirtual 124, 3) := by decide +kernel
theorem dX0_shiftAll_131 : decode cX0_shiftAll 131 = .ok (.aload_n 0, 1) := by decide +kernel
theorem dX0_shiftAll_132 : decode cX0_shiftAll 132 = .ok (.getfield 24, 3) := by decide +kernel
theorem dX0_shiftAll_135 : decode cX0_shiftAll 135 = .ok (.aload_n 0, 1) := by decide +kernel
theorem dX0_shiftAll_136 : decode cX0_shiftAll 136 = .ok (.getfield 27, 3) := by decide +kernel
theorem dX0_shiftAll_139 : decode cX0_shiftAll 139 = .ok (.invokevirtual 57, 3) := by decide +kernel
theorem dX0_shiftAll_142 : decode cX0_shiftAll 142 = .ok (.iload_n 3, 1) := by decide +kernel
theorem dX0_shiftAll_143 : decode cX0_shiftAll 143 = .ok (.ireturn, 1) := by decide +kernel
theorem dX0_layEach_0 : decode cX0_layEach 0 = .ok (.iconst 0, 1) := by decide +kernel
theorem dX0_layEach_1 : decode cX0_layEach 1 = .ok (.istore_n 2, 1) := by decide +kernel
theorem dX0_layEach_2 : decode cX0_layEach 2 = .ok (.iload_n 2, 1) := by decide +kernel
theorem dX0_layEach_3 : decode cX0_layEach 3 = .ok (.aload_n 1, 1) := by decide +kernel
theorem dX0_layEach_4 : decode cX0_layEach 4 = .ok (.invokevirtual 43, 3) := by decide +kernel
theorem dX0_layEach_7 : decode cX0_layEach 7 = .ok (.if_icmp .ge 34, 3) := by decide +kernel
theorem dX0_layEach_10 : decode cX0_layEach 10 = .ok (.aload_n 0, 1) := by decide +kernel
theorem dX0_layEach_11 : decode cX0_layEach 11 = .ok (.aload_n 1, 1) := by decide +kernel
theorem dX0_layEach_12 : decode cX0_layEach 12 = .ok (.iload_n 2, 1) := by decide +kernel
theorem dX0_layEach_13 : decode cX0_layEach 13 = .ok (.invokevirtual 115, 3) := by decide +kernel
theorem dX0_layEach_16 : decode cX0_layEach 16 = .ok (.aload_n 1, 1) := by decide +kernel
theorem dX0_layEach_17 : decode cX0_layEach 17 = .ok (.iload_n 2, 1) := by decide +kernel
theorem dX0_layEach_18 : decode cX0_layEach 18 = .ok (.invokevirtual 118, 3) := by decide +kernel
theorem dX0_layEach_21 : decode cX0_layEach 21 = .ok (.aload_n 1, 1) := by decide +kernel
theorem dX0_layEach_22 : decode cX0_layEach 22 = .ok (.iload_n 2, 1) := by decide +kernel
theorem dX0_layEach_23 : decode cX0_layEach 23 = .ok (.invokevirtual 121, 3) := by decide +kernel
theorem dX0_layEach_26 : decode cX0_layEach 26 = .ok (.invokevirtual 101, 3) := by decide +kernel
theorem dX0_layEach_29 : decode cX0_layEach 29 = .ok (.ifCond .ne 6, 3) := by decide +kernel
theorem dX0_layEach_32 : decode cX0_layEach 32 = .ok (.bipush (-5), 2) := by decide +kernel
theorem dX0_layEach_34 : decode cX0_layEach 34 = .ok (.ireturn, 1) := by decide +kernel
theorem dX0_layEach_35 : decode cX0_layEach 35 = .ok (.iinc 2 1, 3) := by decide +kernel
theorem dX0_layEach_38 : decode cX0_layEach 38 = .ok (.goto (-36), 3) := by decide +kernel
theorem dX0_layEach_41 : decode cX0_layEach 41 = .ok (.aload_n 1, 1) := by decide +kernel
theorem dX0_layEach_42 : decode cX0_layEach 42 = .ok (.invokevirtual 43, 3) := by decide +kernel
theorem dX0_layEach_45 : decode cX0_layEach 45 = .ok (.ireturn, 1) := by decide +kernel
theorem dX0_letPass_0 : decode cX0_letPass 0 = .ok (.iload_n 1, 1) := by decide +kernel
theorem dX0_letPass_1 : decode cX0_letPass 1 = .ok (.iconst 1, 1) := by decide +kernel
theorem dX0_letPass_2 : decode cX0_letPass 2 = .ok (.if_icmp .lt 10, 3) := by decide +kernel
theorem dX0_letPass_5 : decode cX0_letPass 5 = .ok (.iload_n 1, 1) := by decide +kernel
theorem dX0_letPass_6 : decode cX0_letPass 6 = .ok (.sipush 999, 3) := by decide +kernel
theorem dX0_letPass_9 : decode cX0_letPass 9 = .ok (.if_icmp .le 6, 3) := by decide +kernel
theorem dX0_letPass_12 : decode cX0_letPass 12 = .ok (.bipush (-3), 2) := by decide +kernel
theorem dX0_letPass_14 : decode cX0_letPass 14 = .ok (.ireturn, 1) := by decide +kernel
theorem dX0_letPass_15 : decode cX0_letPass 15 = .ok (.aload_n 0, 1) := by decide +kernel
theorem dX0_letPass_16 : decode cX0_letPass 16 = .ok (.dup, 1) := by decide +kernel
theorem dX0_letPass_17 : decode cX0_letPass 17 = .ok (.getfield 36, 3) := by decide +kernel
theorem dX0_letPass_20 : decode cX0_letPass 20 = .ok (.iload_n 1, 1) := by decide +kernel
theorem dX0_letPass_21 : decode cX0_letPass 21 = .ok (.iadd, 1) := by decide +kernel
theorem dX0_letPass_22 : decode cX0_letPass 22 = .ok (.putfield 36, 3) := by decide +kernel
theorem dX0_letPass_25 : decode cX0_letPass 25 = .ok (.aload_n 0, 1) := by decide +kernel
theorem dX0_letPass_26 : decode cX0_letPass 26 = .ok (.getfield 36, 3) := by decide +kernel
theorem dX0_letPass_29 : decode cX0_letPass 29 = .ok (.ireturn, 1) := by decide +kernel
theorem dX0_pieces_0 : decode cX0_pieces 0 = .ok (.aload_n 0, 1) := by decide +kernel
theorem dX0_pieces_1 : decode cX0_pieces 1 = .ok (.getfield 24, 3) := by decide +kernel
theorem dX0_pieces_4 : decode cX0_pieces 4 = .ok (.areturn, 1) := by decide +kernel
theorem dX0_moves_0 : decode cX0_moves 0 = .ok (.aload_n 0, 1) := by decide +kernel
theorem dX0_moves_1 : decode cX0_moves 1 = .ok (.getfield 30, 3) := by decide +kernel
theorem dX0_moves_4 : decode cX0_moves 4 = .ok (.areturn, 1) := by decide +kernel
theorem dX0_allSeries_0 : decode cX0_allSeries 0 = .ok (.aload_n 0, 1) := by decide +kernel
theorem dX0_allSeries_1 : decode cX0_allSeries 1 = .ok (.getfield 14, 3) := by decide +kernel
theorem dX0_allSeries_4 : decode cX0_allSeries 4 = .ok (.areturn, 1) := by decide +kernel
theorem dX0_today_0 : decode cX0_today 0 = .ok (.aload_n 0, 1) := by decide +kernel
theorem dX0_today_1 : decode cX0_today 1 = .ok (.getfield 36, 3) := by decide +kernel
theorem dX0_today_4 : decode cX0_today 4 = .ok (.ireturn, 1) := by decide +kernel
theorem dX0_dayOf_0 : decode cX0_dayOf 0 = .ok (.iload_n 1, 1) := by decide +kernel
theorem dX0_dayOf_1 : decode cX0_dayOf 1 = .ok (.ifCond .lt 21, 3) := by decide +kernel
theorem dX0_dayOf_4 : decode cX0_dayOf 4 = .ok (.iload_n 1, 1) := by decide +kernel
theorem dX0_dayOf_5 : decode cX0_dayOf 5 = .ok (.aload_n 0, 1) := by decide +kernel
theorem dX0_dayOf_6 : decode cX0_dayOf 6 = .ok (.getfield 33, 3) := by decide +kernel
theorem dX0_dayOf_9 : decode cX0_dayOf 9 = .ok (.arraylength, 1) := by decide +kernel
theorem dX0_dayOf_10 : decode cX0_dayOf 10 = .ok (.if_icmp .ge 12, 3) := by decide +kernel
theorem dX0_dayOf_13 : decode cX0_dayOf 13 = .ok (.aload_n 0, 1) := by decide +kernel
theorem dX0_dayOf_14 : decode cX0_dayOf 14 = .ok (.getfield 33, 3) := by decide +kernel
theorem dX0_dayOf_17 : decode cX0_dayOf 17 = .ok (.iload_n 1, 1) := by decide +kernel
theorem dX0_dayOf_18 : decode cX0_dayOf 18 = .ok (.iaload, 1) := by decide +kernel
theorem dX0_dayOf_19 : decode cX0_dayOf 19 = .ok (.goto 4, 3) := by decide +kernel
theorem dX0_dayOf_22 : decode cX0_dayOf 22 = .ok (.iconst (-1), 1) := by decide +kernel
theorem dX0_dayOf_23 : decode cX0_dayOf 23 = .ok (.ireturn, 1) := by decide +kernel
theorem dX0_roomOf_0 : decode cX0_roomOf 0 = .ok (.iload_n 1, 1) := by decide +kernel
theorem dX0_roomOf_1 : decode cX0_roomOf 1 = .ok (.invokestatic 91, 3) := by decide +kernel
theorem dX0_roomOf_4 : decode cX0_roomOf 4 = .ok (.ifCond .eq 12, 3) := by decide +kernel
theorem dX0_roomOf_7 : decode cX0_roomOf 7 = .ok (.aload_n 0, 1) := by decide +kernel
theorem dX0_roomOf_8 : decode cX0_roomOf 8 = .ok (.getfield 20, 3) := by decide +kernel
theorem dX0_roomOf_11 : decode cX0_roomOf 11 = .ok (.iload_n 1, 1) := by decide +kernel
theorem dX0_roomOf_12 : decode cX0_roomOf 12 = .ok (.iaload, 1) := by decide +kernel
theorem dX0_roomOf_13 : decode cX0_roomOf 13 = .ok (.goto 4, 3) := by decide +kernel
theorem dX0_roomOf_16 : decode cX0_roomOf 16 = .ok (.iconst 0, 1) := by decide +kernel
theorem dX0_roomOf_17 : decode cX0_roomOf 17 = .ok (.ireturn, 1) := by decide +kernel
theorem dX0_loadOf_0 : decode cX0_loadOf 0 = .ok (.aload_n 0, 1) := by decide +kernel
theorem dX0_loadOf_1 : decode cX0_loadOf 1 = .ok (.getfield 24, 3) := by decide +kernel
theorem dX0_loadOf_4 : decode cX0_loadOf 4 = .ok (.iload_n 1, 1) := by decide +kernel
theorem dX0_loadOf_5 : decode cX0_loadOf 5 = .ok (.iconst 1, 1) := by decide +kernel
theorem dX0_loadOf_6 : decode cX0_loadOf 6 = .ok (.ldc 94, 2) := by decide +kernel
theorem dX0_loadOf_8 : decode cX0_loadOf 8 = .ok (.invokevirtual 83, 3) := by decide +kernel
theorem dX0_loadOf_11 : decode cX0_loadOf 11 = .ok (.ireturn, 1) := by decide +kernel
theorem dX0_freeIn_0 : decode cX0_freeIn 0 = .ok (.aload_n 0, 1) := by decide +kernel
theorem dX0_freeIn_1 : decode cX0_freeIn 1 = .ok (.iload_n 1, 1) := by decide +kernel
theorem dX0_freeIn_2 : decode cX0_freeIn 2 = .ok (.invokevirtual 128, 3) := by decide +kernel
theorem dX0_freeIn_5 : decode cX0_freeIn 5 = .ok (.aload_n 0, 1) := by decide +kernel
theorem dX0_freeIn_6 : decode cX0_freeIn 6 = .ok (.iload_n 1, 1) := by decide +kernel
theorem dX0_freeIn_7 : decode cX0_freeIn 7 = .ok (.invokevirtual 95, 3) := by decide +kernel
theorem dX0_freeIn_10 : decode cX0_freeIn 10 = .ok (.isub, 1) := by decide +kernel
theorem dX0_freeIn_11 : decode cX0_freeIn 11 = .ok (.ireturn, 1) := by decide +kernel
theorem dX0_seriesCount_0 : decode cX0_seriesCount 0 = .ok (.aload_n 0, 1) := by decide +kernel
theorem dX0_seriesCount_1 : decode cX0_seriesCount 1 = .ok (.getfield 14, 3) := by decide +kernel
theorem dX0_seriesCount_4 : decode cX0_seriesCount 4 = .ok (.invokevirtual 43, 3) := by decide +kernel
theorem dX0_seriesCount_7 : decode cX0_seriesCount 7 = .ok (.ireturn, 1) := by decide +kernel
theorem dX0_isSeries_0 : decode cX0_isSeries 0 = .ok (.aload_n 0, 1) := by decide +kernel
theorem dX0_isSeries_1 : decode cX0_isSeries 1 = .ok (.getfield 14, 3) := by decide +kernel
theorem dX0_isSeries_4 : decode cX0_isSeries 4 = .ok (.iload_n 1, 1) := by decide +kernel
theorem dX0_isSeries_5 : decode cX0_isSeries 5 = .ok (.invokevirtual 131, 3) := by decide +kernel
theorem dX0_isSeries_8 : decode cX0_isSeries 8 = .ok (.ireturn, 1) := by decide +kernel
theorem dX0_parentOf_0 : decode cX0_parentOf 0 = .ok (.aload_n 0, 1) := by decide +kernel
theorem dX0_parentOf_1 : decode cX0_parentOf 1 = .ok (.getfield 14, 3) := by decide +kernel
theorem dX0_parentOf_4 : decode cX0_parentOf 4 = .ok (.iload_n 1, 1) := by decide +kernel
theorem dX0_parentOf_5 : decode cX0_parentOf 5 = .ok (.invokevirtual 115, 3) := by decide +kernel
theorem dX0_parentOf_8 : decode cX0_parentOf 8 = .ok (.ireturn, 1) := by decide +kernel
theorem dX0_firstIn_0 : decode cX0_firstIn 0 = .ok (.iload_n 1, 1) := by decide +kernel
theorem dX0_firstIn_1 : decode cX0_firstIn 1 = .ok (.iconst (-1), 1) := by decide +kernel
theorem dX0_firstIn_2 : decode cX0_firstIn 2 = .ok (.if_icmp .ne 7, 3) := by decide +kernel
theorem dX0_firstIn_5 : decode cX0_firstIn 5 = .ok (.iconst 1, 1) := by decide +kernel
theorem dX0_firstIn_6 : decode cX0_firstIn 6 = .ok (.goto 11, 3) := by decide +kernel
theorem dX0_firstIn_9 : decode cX0_firstIn 9 = .ok (.aload_n 0, 1) := by decide +kernel
theorem dX0_firstIn_10 : decode cX0_firstIn 10 = .ok (.getfield 14, 3) := by decide +kernel
theorem dX0_firstIn_13 : decode cX0_firstIn 13 = .ok (.iload_n 1, 1) := by decide +kernel
theorem dX0_firstIn_14 : decode cX0_firstIn 14 = .ok (.invokevirtual 118, 3) := by decide +kernel
theorem dX0_firstIn_17 : decode cX0_firstIn 17 = .ok (.ireturn, 1) := by decide +kernel
theorem dX0_lastIn_0 : decode cX0_lastIn 0 = .ok (.iload_n 1, 1) := by decide +kernel
theorem dX0_lastIn_1 : decode cX0_lastIn 1 = .ok (.iconst (-1), 1) := by decide +kernel
theorem dX0_lastIn_2 : decode cX0_lastIn 2 = .ok (.if_icmp .ne 8, 3) := by decide +kernel
theorem dX0_lastIn_5 : decode cX0_lastIn 5 = .ok (.ldc 94, 2) := by decide +kernel
theorem dX0_lastIn_7 : decode cX0_lastIn 7 = .ok (.goto 11, 3) := by decide +kernel
theorem dX0_lastIn_10 : decode cX0_lastIn 10 = .ok (.aload_n 0, 1) := by decide +kernel
theorem dX0_lastIn_11 : decode cX0_lastIn 11 = .ok (.getfield 14, 3) := by decide +kernel
theorem dX0_lastIn_14 : decode cX0_lastIn 14 = .ok (.iload_n 1, 1) := by decide +kernel
theorem dX0_lastIn_15 : decode cX0_lastIn 15 = .ok (.invokevirtual 121, 3) := by decide +kernel
theorem dX0_lastIn_18 : decode cX0_lastIn 18 = .ok (.ireturn, 1) := by decide +kernel
theorem dX0_childrenOf_0 : decode cX0_childrenOf 0 = .ok (.iconst 0, 1) := by decide +kernel
theorem dX0_childrenOf_1 : decode cX0_childrenOf 1 = .ok (.istore_n 2, 1) := by decide +kernel
theorem dX0_childrenOf_2 : decode cX0_childrenOf 2 = .ok (.iconst 0, 1) := by decide +kernel
theorem dX0_childrenOf_3 : decode cX0_childrenOf 3 = .ok (.istore_n 3, 1) := by decide +kernel
theorem dX0_childrenOf_4 : decode cX0_childrenOf 4 = .ok (.iload_n 3, 1) := by decide +kernel
theorem dX0_childrenOf_5 : decode cX0_childrenOf 5 = .ok (.aload_n 0, 1) := by decide +kernel
theorem dX0_childrenOf_6 : decode cX0_childrenOf 6 = .ok (.getfield 14, 3) := by decide +kernel
theorem dX0_childrenOf_9 : decode cX0_childrenOf 9 = .ok (.invokevirtual 43, 3) := by decide +kernel
theorem dX0_childrenOf_12 : decode cX0_childrenOf 12 = .ok (.if_icmp .ge 27, 3) := by decide +kernel
theorem dX0_childrenOf_15 : decode cX0_childrenOf 15 = .ok (.aload_n 0, 1) := by decide +kernel
theorem dX0_childrenOf_16 : decode cX0_childrenOf 16 = .ok (.getfield 14, 3) := by decide +kernel
theorem dX0_childrenOf_19 : decode cX0_childrenOf 19 = .ok (.iload_n 3, 1) := by decide +kernel
theorem dX0_childrenOf_20 : decode cX0_childrenOf 20 = .ok (.invokevirtual 115, 3) := by decide +kernel
theorem dX0_childrenOf_23 : decode cX0_childrenOf 23 = .ok (.iload_n 1, 1) := by decide +kernel
theorem dX0_childrenOf_24 : decode cX0_childrenOf 24 = .ok (.if_icmp .ne 9, 3) := by decide +kernel
theorem dX0_childrenOf_27 : decode cX0_childrenOf 27 = .ok (.iload_n 2, 1) := by decide +kernel
theorem dX0_childrenOf_28 : decode cX0_childrenOf 28 = .ok (.iconst 1, 1) := by decide +kernel
theorem dX0_childrenOf_29 : decode cX0_childrenOf 29 = .ok (.iload_n 3, 1) := by decide +kernel
theorem dX0_childrenOf_30 : decode cX0_childrenOf 30 = .ok (.ishl, 1) := by decide +kernel
theorem dX0_childrenOf_31 : decode cX0_childrenOf 31 = .ok (.ior, 1) := by decide +kernel
theorem dX0_childrenOf_32 : decode cX0_childrenOf 32 = .ok (.istore_n 2, 1) := by decide +kernel
theorem dX0_childrenOf_33 : decode cX0_childrenOf 33 = .ok (.iinc 3 1, 3) := by decide +kernel
theorem dX0_childrenOf_36 : decode cX0_childrenOf 36 = .ok (.goto (-32), 3) := by decide +kernel
theorem dX0_childrenOf_39 : decode cX0_childrenOf 39 = .ok (.iload_n 2, 1) := by decide +kernel
theorem dX0_childrenOf_40 : decode cX0_childrenOf 40 = .ok (.ireturn, 1) := by decide +kernel
theorem dX0_ownCount_0 : decode cX0_ownCount 0 = .ok (.aload_n 0, 1) := by decide +kernel
theorem dX0_ownCount_1 : decode cX0_ownCount 1 = .ok (.iload_n 1, 1) := by decide +kernel
theorem dX0_ownCount_2 : decode cX0_ownCount 2 = .ok (.invokevirtual 76, 3) := by decide +kernel
theorem dX0_ownCount_5 : decode cX0_ownCount 5 = .ok (.istore_n 2, 1) := by decide +kernel
theorem dX0_ownCount_6 : decode cX0_ownCount 6 = .ok (.aload_n 0, 1) := by decide +kernel
theorem dX0_ownCount_7 : decode cX0_ownCount 7 = .ok (.iload_n 1, 1) := by decide +kernel
theorem dX0_ownCount_8 : decode cX0_ownCount 8 = .ok (.invokevirtual 80, 3) := by decide +kernel
theorem dX0_ownCount_11 : decode cX0_ownCount 11 = .ok (.istore_n 3, 1) := by decide +kernel
theorem dX0_ownCount_12 : decode cX0_ownCount 12 = .ok (.iload_n 3, 1) := by decide +kernel
theorem dX0_ownCount_13 : decode cX0_ownCount 13 = .ok (.iload_n 2, 1) := by decide +kernel
theorem dX0_ownCount_14 : decode cX0_ownCount 14 = .ok (.isub, 1) := by decide +kernel
theorem dX0_ownCount_15 : decode cX0_ownCount 15 = .ok (.iconst 1, 1) := by decide +kernel
theorem dX0_ownCount_16 : decode cX0_ownCount 16 = .ok (.iadd, 1) := by decide +kernel
theorem dX0_ownCount_17 : decode cX0_ownCount 17 = .ok (.aload_n 0, 1) := by decide +kernel
theorem dX0_ownCount_18 : decode cX0_ownCount 18 = .ok (.getfield 14, 3) := by decide +kernel
theorem dX0_ownCount_21 : decode cX0_ownCount 21 = .ok (.iload_n 1, 1) := by decide +kernel
theorem dX0_ownCount_22 : decode cX0_ownCount 22 = .ok (.iload_n 2, 1) := by decide +kernel
theorem dX0_ownCount_23 : decode cX0_ownCount 23 = .ok (.iload_n 3, 1) := by decide +kernel
theorem dX0_ownCount_24 : decode cX0_ownCount 24 = .ok (.invokevirtual 83, 3) := by decide +kernel
theorem dX0_ownCount_27 : decode cX0_ownCount 27 = .ok (.isub, 1) := by decide +kernel
theorem dX0_ownCount_28 : decode cX0_ownCount 28 = .ok (.ireturn, 1) := by decide +kernel
theorem dX0_ownIn_0 : decode cX0_ownIn 0 = .ok (.aload_n 0, 1) := by decide +kernel
theorem dX0_ownIn_1 : decode cX0_ownIn 1 = .ok (.getfield 24, 3) := by decide +kernel
theorem dX0_ownIn_4 : decode cX0_ownIn 4 = .ok (.iload_n 2, 1) := by decide +kernel
theorem dX0_ownIn_5 : decode cX0_ownIn 5 = .ok (.aload_n 0, 1) := by decide +kernel
theorem dX0_ownIn_6 : decode cX0_ownIn 6 = .ok (.iload_n 1, 1) := by decide +kernel
theorem dX0_ownIn_7 : decode cX0_ownIn 7 = .ok (.invokevirtual 76, 3) := by decide +kernel
theorem dX0_ownIn_10 : decode cX0_ownIn 10 = .ok (.aload_n 0, 1) := by decide +kernel
theorem dX0_ownIn_11 : decode cX0_ownIn 11 = .ok (.iload_n 1, 1) := by decide +kernel
theorem dX0_ownIn_12 : decode cX0_ownIn 12 = .ok (.invokevirtual 80, 3) := by decide +kernel
theorem dX0_ownIn_15 : decode cX0_ownIn 15 = .ok (.invokevirtual 83, 3) := by decide +kernel
theorem dX0_ownIn_18 : decode cX0_ownIn 18 = .ok (.istore_n 3, 1) := by decide +kernel
theorem dX0_ownIn_19 : decode cX0_ownIn 19 = .ok (.iconst 0, 1) := by decide +kernel
theorem dX0_ownIn_20 : decode cX0_ownIn 20 = .ok (.istore 4, 2) := by decide +kernel
theorem dX0_ownIn_22 : decode cX0_ownIn 22 = .ok (.iload 4, 2) := by decide +kernel
theorem dX0_ownIn_24 : decode cX0_ownIn 24 = .ok (.aload_n 0, 1) := by decide +kernel
theorem dX0_ownIn_25 : decode cX0_ownIn 25 = .ok (.getfield 14, 3) := by decide +kernel
theorem dX0_ownIn_28 : decode cX0_ownIn 28 = .ok (.invokevirtual 43, 3) := by decide +kernel
theorem dX0_ownIn_31 : decode cX0_ownIn 31 = .ok (.if_icmp .ge 51, 3) := by decide +kernel
theorem dX0_ownIn_34 : decode cX0_ownIn 34 = .ok (.aload_n 0, 1) := by decide +kernel
theorem dX0_ownIn_35 : decode cX0_ownIn 35 = .ok (.getfield 14, 3) := by decide +kernel
theorem dX0_ownIn_38 : decode cX0_ownIn 38 = .ok (.iload 4, 2) := by decide +kernel
theorem dX0_ownIn_40 : decode cX0_ownIn 40 = .ok (.invokevirtual 115, 3) := by decide +kernel
theorem dX0_ownIn_43 : decode cX0_ownIn 43 = .ok (.iload_n 1, 1) := by decide +kernel
theorem dX0_ownIn_44 : decode cX0_ownIn 44 = .ok (.if_icmp .ne 32, 3) := by decide +kernel
theorem dX0_ownIn_47 : decode cX0_ownIn 47 = .ok (.iload_n 3, 1) := by decide +kernel
theorem dX0_ownIn_48 : decode cX0_ownIn 48 = .ok (.aload_n 0, 1) := by decide +kernel
theorem dX0_ownIn_49 : decode cX0_ownIn 49 = .ok (.getfield 24, 3) := by decide +kernel
theorem dX0_ownIn_52 : decode cX0_ownIn 52 = .ok (.iload_n 2, 1) := by decide +kernel
theorem dX0_ownIn_53 : decode cX0_ownIn 53 = .ok (.aload_n 0, 1) := by decide +kernel
theorem dX0_ownIn_54 : decode cX0_ownIn 54 = .ok (.getfield 14, 3) := by decide +kernel
theorem dX0_ownIn_57 : decode cX0_ownIn 57 = .ok (.iload 4, 2) := by decide +kernel
theorem dX0_ownIn_59 : decode cX0_ownIn 59 = .ok (.invokevirtual 118, 3) := by decide +kernel
theorem dX0_ownIn_62 : decode cX0_ownIn 62 = .ok (.aload_n 0, 1) := by decide +kernel
theorem dX0_ownIn_63 : decode cX0_ownIn 63 = .ok (.getfield 14, 3) := by decide +kernel
theorem dX0_ownIn_66 : decode cX0_ownIn 66 = .ok (.iload 4, 2) := by decide +kernel
theorem dX0_ownIn_68 : decode cX0_ownIn 68 = .ok (.invokevirtual 121, 3) := by decide +kernel
theorem dX0_ownIn_71 : decode cX0_ownIn 71 = .ok (.invokevirtual 83, 3) := by decide +kernel
theorem dX0_ownIn_74 : decode cX0_ownIn 74 = .ok (.isub, 1) := by decide +kernel
theorem dX0_ownIn_75 : decode cX0_ownIn 75 = .ok (.istore_n 3, 1) := by decide +kernel
theorem dX0_ownIn_76 : decode cX0_ownIn 76 = .ok (.iinc 4 1, 3) := by decide +kernel
theorem dX0_ownIn_79 : decode cX0_ownIn 79 = .ok (.goto (-57), 3) := by decide +kernel
theorem dX0_ownIn_82 : decode cX0_ownIn 82 = .ok (.iload_n 3, 1) := by decide +kernel
theorem dX0_ownIn_83 : decode cX0_ownIn 83 = .ok (.ireturn, 1) := by decide +kernel
theorem dX0_seriesIn_0 : decode cX0_seriesIn 0 = .ok (.iconst 0, 1) := by decide +kernel
theorem dX0_seriesIn_1 : decode cX0_seriesIn 1 = .ok (.istore_n 2, 1) := by decide +kernel
theorem dX0_seriesIn_2 : decode cX0_seriesIn 2 = .ok (.iconst 0, 1) := by decide +kernel
theorem dX0_seriesIn_3 : decode cX0_seriesIn 3 = .ok (.istore_n 3, 1) := by decide +kernel
theorem dX0_seriesIn_4 : decode cX0_seriesIn 4 = .ok (.iload_n 3, 1) := by decide +kernel
theorem dX0_seriesIn_5 : decode cX0_seriesIn 5 = .ok (.aload_n 0, 1) := by decide +kernel
theorem dX0_seriesIn_6 : decode cX0_seriesIn 6 = .ok (.getfield 14, 3) := by decide +kernel
theorem dX0_seriesIn_9 : decode cX0_seriesIn 9 = .ok (.invokevirtual 43, 3) := by decide +kernel
theorem dX0_seriesIn_12 : decode cX0_seriesIn 12 = .ok (.if_icmp .ge 24, 3) := by decide +kernel
theorem dX0_seriesIn_15 : decode cX0_seriesIn 15 = .ok (.aload_n 0, 1) := by decide +kernel
theorem dX0_seriesIn_16 : decode cX0_seriesIn 16 = .ok (.iload_n 3, 1) := by decide +kernel
theorem dX0_seriesIn_17 : decode cX0_seriesIn 17 = .ok (.iload_n 1, 1) := by decide +kernel
theorem dX0_seriesIn_18 : decode cX0_seriesIn 18 = .ok (.invokevirtual 134, 3) := by decide +kernel
theorem dX0_seriesIn_21 : decode cX0_seriesIn 21 = .ok (.ifCond .le 9, 3) := by decide +kernel
theorem dX0_seriesIn_24 : decode cX0_seriesIn 24 = .ok (.iload_n 2, 1) := by decide +kernel
theorem dX0_seriesIn_25 : decode cX0_seriesIn 25 = .ok (.iconst 1, 1) := by decide +kernel
theorem dX0_seriesIn_26 : decode cX0_seriesIn 26 = .ok (.iload_n 3, 1) := by decide +kernel
theorem dX0_seriesIn_27 : decode cX0_seriesIn 27 = .ok (.ishl, 1) := by decide +kernel
theorem dX0_seriesIn_28 : decode cX0_seriesIn 28 = .ok (.ior, 1) := by decide +kernel
theorem dX0_seriesIn_29 : decode cX0_seriesIn 29 = .ok (.istore_n 2, 1) := by decide +kernel
theorem dX0_seriesIn_30 : decode cX0_seriesIn 30 = .ok (.iinc 3 1, 3) := by decide +kernel
theorem dX0_seriesIn_33 : decode cX0_seriesIn 33 = .ok (.goto (-29), 3) := by decide +kernel
theorem dX0_seriesIn_36 : decode cX0_seriesIn 36 = .ok (.iload_n 2, 1) := by decide +kernel
theorem dX0_seriesIn_37 : decode cX0_seriesIn 37 = .ok (.ireturn, 1) := by decide +kernel
theorem dX0_homeOf_0 : decode cX0_homeOf 0 = .ok (.aload_n 0, 1) := by decide +kernel
theorem dX0_homeOf_1 : decode cX0_homeOf 1 = .ok (.getfield 14, 3) := by decide +kernel
theorem dX0_homeOf_4 : decode cX0_homeOf 4 = .ok (.invokevirtual 43, 3) := by decide +kernel
theorem dX0_homeOf_7 : decode cX0_homeOf 7 = .ok (.iconst 1, 1) := by decide +kernel
theorem dX0_homeOf_8 : decode cX0_homeOf 8 = .ok (.isub, 1) := by decide +kernel
theorem dX0_homeOf_9 : decode cX0_homeOf 9 = .ok (.istore_n 2, 1) := by decide +kernel
theorem dX0_homeOf_10 : decode cX0_homeOf 10 = .ok (.iload_n 2, 1) := by decide +kernel
theorem dX0_homeOf_11 : decode cX0_homeOf 11 = .ok (.ifCond .lt 23, 3) := by decide +kernel
theorem dX0_homeOf_14 : decode cX0_homeOf 14 = .ok (.aload_n 0, 1) := by decide +kernel
theorem dX0_homeOf_15 : decode cX0_homeOf 15 = .ok (.getfield 14, 3) := by decide +kernel
theorem dX0_homeOf_18 : decode cX0_homeOf 18 = .ok (.iload_n 2, 1) := by decide +kernel
theorem dX0_homeOf_19 : decode cX0_homeOf 19 = .ok (.iload_n 1, 1) := by decide +kernel
theorem dX0_homeOf_20 : decode cX0_homeOf 20 = .ok (.invokevirtual 138, 3) := by decide +kernel
theorem dX0_homeOf_23 : decode cX0_homeOf 23 = .ok (.ifCond .eq 5, 3) := by decide +kernel
theorem dX0_homeOf_26 : decode cX0_homeOf 26 = .ok (.iload_n 2, 1) := by decide +kernel
theorem dX0_homeOf_27 : decode cX0_homeOf 27 = .ok (.ireturn, 1) := by decide +kernel
theorem dX0_homeOf_28 : decode cX0_homeOf 28 = .ok (.iinc 2 (-1), 3) := by decide +kernel
theorem dX0_homeOf_31 : decode cX0_homeOf 31 = .ok (.goto (-21), 3) := by decide +kernel
theorem dX0_homeOf_34 : decode cX0_homeOf 34 = .ok (.iconst (-1), 1) := by decide +kernel
theorem dX0_homeOf_35 : decode cX0_homeOf 35 = .ok (.ireturn, 1) := by decide +kernel
theorem dX0_placeOf_0 : decode cX0_placeOf 0 = .ok (.iconst 0, 1) := by decide +kernel
theorem dX0_placeOf_1 : decode cX0_placeOf 1 = .ok (.istore_n 2, 1) := by decide +kernel
theorem dX0_placeOf_2 : decode cX0_placeOf 2 = .ok (.iload_n 2, 1) := by decide +kernel
theorem dX0_placeOf_3 : decode cX0_placeOf 3 = .ok (.aload_n 0, 1) := by decide +kernel
theorem dX0_placeOf_4 : decode cX0_placeOf 4 = .ok (.getfield 24, 3) := by decide +kernel
theorem dX0_placeOf_7 : decode cX0_placeOf 7 = .ok (.invokevirtual 43, 3) := by decide +kernel
theorem dX0_placeOf_10 : decode cX0_placeOf 10 = .ok (.if_icmp .ge 30, 3) := by decide +kernel
theorem dX0_placeOf_13 : decode cX0_placeOf 13 = .ok (.aload_n 0, 1) := by decide +kernel
theorem dX0_placeOf_14 : decode cX0_placeOf 14 = .ok (.getfield 24, 3) := by decide +kernel
theorem dX0_placeOf_17 : decode cX0_placeOf 17 = .ok (.iload_n 2, 1) := by decide +kernel
theorem dX0_placeOf_18 : decode cX0_placeOf 18 = .ok (.iload_n 1, 1) := by decide +kernel
theorem dX0_placeOf_19 : decode cX0_placeOf 19 = .ok (.invokevirtual 138, 3) := by decide +kernel
theorem dX0_placeOf_22 : decode cX0_placeOf 22 = .ok (.ifCond .eq 12, 3) := by decide +kernel
theorem dX0_placeOf_25 : decode cX0_placeOf 25 = .ok (.aload_n 0, 1) := by decide +kernel
theorem dX0_placeOf_26 : decode cX0_placeOf 26 = .ok (.getfield 24, 3) := by decide +kernel
theorem dX0_placeOf_29 : decode cX0_placeOf 29 = .ok (.iload_n 2, 1) := by decide +kernel
theorem dX0_placeOf_30 : decode cX0_placeOf 30 = .ok (.invokevirtual 115, 3) := by decide +kernel
theorem dX0_placeOf_33 : decode cX0_placeOf 33 = .ok (.ireturn, 1) := by decide +kernel
theorem dX0_placeOf_34 : decode cX0_placeOf 34 = .ok (.iinc 2 1, 3) := by decide +kernel
theorem dX0_placeOf_37 : decode cX0_placeOf 37 = .ok (.goto (-35), 3) := by decide +kernel
theorem dX0_placeOf_40 : decode cX0_placeOf 40 = .ok (.iconst (-1), 1) := by decide +kernel
theorem dX0_placeOf_41 : decode cX0_placeOf 41 = .ok (.ireturn, 1) := by decide +kernel
theorem dX0_placeOn_0 : decode cX0_placeOn 0 = .ok (.aload_n 0, 1) := by decide +kernel
theorem dX0_placeOn_1 : decode cX0_placeOn 1 = .ok (.getfield 30, 3) := by decide +kernel
theorem dX0_placeOn_4 : decode cX0_placeOn 4 = .ok (.invokevirtual 43, 3) := by decide +kernel
theorem dX0_placeOn_7 : decode cX0_placeOn 7 = .ok (.iconst 1, 1) := by decide +kernel
theorem dX0_placeOn_8 : decode cX0_placeOn 8 = .ok (.isub, 1) := by decide +kernel
theorem dX0_placeOn_9 : decode cX0_placeOn 9 = .ok (.istore_n 3, 1) := by decide +kernel
theorem dX0_placeOn_10 : decode cX0_placeOn 10 = .ok (.iload_n 3, 1) := by decide +kernel
theorem dX0_placeOn_11 : decode cX0_placeOn 11 = .ok (.ifCond .lt 39, 3) := by decide +kernel
theorem dX0_placeOn_14 : decode cX0_placeOn 14 = .ok (.aload_n 0, 1) := by decide +kernel
theorem dX0_placeOn_15 : decode cX0_placeOn 15 = .ok (.iload_n 3, 1) := by decide +kernel
theorem dX0_placeOn_16 : decode cX0_placeOn 16 = .ok (.invokevirtual 141, 3) := by decide +kernel
theorem dX0_placeOn_19 : decode cX0_placeOn 19 = .ok (.iload_n 2, 1) := by decide +kernel
theorem dX0_placeOn_20 : decode cX0_placeOn 20 = .ok (.if_icmp .gt 24, 3) := by decide +kernel
theorem dX0_placeOn_23 : decode cX0_placeOn 23 = .ok (.aload_n 0, 1) := by decide +kernel
theorem dX0_placeOn_24 : decode cX0_placeOn 24 = .ok (.getfield 30, 3) := by decide +kernel
theorem dX0_placeOn_27 : decode cX0_placeOn 27 = .ok (.iload_n 3, 1) := by decide +kernel
theorem dX0_placeOn_28 : decode cX0_placeOn 28 = .ok (.iload_n 1, 1) := by decide +kernel
theorem dX0_placeOn_29 : decode cX0_placeOn 29 = .ok (.invokevirtual 138, 3) := by decide +kernel
theorem dX0_placeOn_32 : decode cX0_placeOn 32 = .ok (.ifCond .eq 12, 3) := by decide +kernel
theorem dX0_placeOn_35 : decode cX0_placeOn 35 = .ok (.aload_n 0, 1) := by decide +kernel
theorem dX0_placeOn_36 : decode cX0_placeOn 36 = .ok (.getfield 30, 3) := by decide +kernel
theorem dX0_placeOn_39 : decode cX0_placeOn 39 = .ok (.iload_n 3, 1) := by decide +kernel
theorem dX0_placeOn_40 : decode cX0_placeOn 40 = .ok (.invokevirtual 115, 3) := by decide +kernel
theorem dX0_placeOn_43 : decode cX0_placeOn 43 = .ok (.ireturn, 1) := by decide +kernel
theorem dX0_placeOn_44 : decode cX0_placeOn 44 = .ok (.iinc 3 (-1), 3) := by decide +kernel
theorem dX0_placeOn_47 : decode cX0_placeOn 47 = .ok (.goto (-37), 3) := by decide +kernel
theorem dX0_placeOn_50 : decode cX0_placeOn 50 = .ok (.iconst (-1), 1) := by decide +kernel
theorem dX0_placeOn_51 : decode cX0_placeOn 51 = .ok (.ireturn, 1) := by decide +kernel
theorem dX0_trailOf_0 : decode cX0_trailOf 0 = .ok (.iconst (-1), 1) := by decide +kernel
theorem dX0_trailOf_1 : decode cX0_trailOf 1 = .ok (.istore_n 3, 1) := by decide +kernel
theorem dX0_trailOf_2 : decode cX0_trailOf 2 = .ok (.iconst 0, 1) := by decide +kernel
theorem dX0_trailOf_3 : decode cX0_trailOf 3 = .ok (.istore 4, 2) := by decide +kernel
theorem dX0_trailOf_5 : decode cX0_trailOf 5 = .ok (.iconst 0, 1) := by decide +kernel
theorem dX0_trailOf_6 : decode cX0_trailOf 6 = .ok (.istore 5, 2) := by decide +kernel
theorem dX0_trailOf_8 : decode cX0_trailOf 8 = .ok (.iload 5, 2) := by decide +kernel
theorem dX0_trailOf_10 : decode cX0_trailOf 10 = .ok (.aload_n 0, 1) := by decide +kernel
theorem dX0_trailOf_11 : decode cX0_trailOf 11 = .ok (.getfield 30, 3) := by decide +kernel
theorem dX0_trailOf_14 : decode cX0_trailOf 14 = .ok (.invokevirtual 43, 3) := by decide +kernel
theorem dX0_trailOf_17 : decode cX0_trailOf 17 = .ok (.if_icmp .ge 57, 3) := by decide +kernel
theorem dX0_trailOf_20 : decode cX0_trailOf 20 = .ok (.aload_n 0, 1) := by decide +kernel
theorem dX0_trailOf_21 : decode cX0_trailOf 21 = .ok (.getfield 30, 3) := by decide +kernel
theorem dX0_trailOf_24 : decode cX0_trailOf 24 = .ok (.iload 5, 2) := by decide +kernel
theorem dX0_trailOf_26 : decode cX0_trailOf 26 = .ok (.iload_n 1, 1) := by decide +kernel
theorem dX0_trailOf_27 : decode cX0_trailOf 27 = .ok (.invokevirtual 138, 3) := by decide +kernel
theorem dX0_trailOf_30 : decode cX0_trailOf 30 = .ok (.ifCond .eq 38, 3) := by decide +kernel
theorem dX0_trailOf_33 : decode cX0_trailOf 33 = .ok (.aload_n 0, 1) := by decide +kernel
theorem dX0_trailOf_34 : decode cX0_trailOf 34 = .ok (.getfield 30, 3) := by decide +kernel
theorem dX0_trailOf_37 : decode cX0_trailOf 37 = .ok (.iload 5, 2) := by decide +kernel
theorem dX0_trailOf_39 : decode cX0_trailOf 39 = .ok (.invokevirtual 115, 3) := by decide +kernel
theorem dX0_trailOf_42 : decode cX0_trailOf 42 = .ok (.iload_n 3, 1) := by decide +kernel
theorem dX0_trailOf_43 : decode cX0_trailOf 43 = .ok (.if_icmp .eq 25, 3) := by decide +kernel
theorem dX0_trailOf_46 : decode cX0_trailOf 46 = .ok (.iload 4, 2) := by decide +kernel
theorem dX0_trailOf_48 : decode cX0_trailOf 48 = .ok (.iload_n 2, 1) := by decide +kernel
theorem dX0_trailOf_49 : decode cX0_trailOf 49 = .ok (.if_icmp .ne 6, 3) := by decide +kernel
theorem dX0_trailOf_52 : decode cX0_trailOf 52 = .ok (.iload 5, 2) := by decide +kernel
theorem dX0_trailOf_54 : decode cX0_trailOf 54 = .ok (.ireturn, 1) := by decide +kernel
theorem dX0_trailOf_55 : decode cX0_trailOf 55 = .ok (.aload_n 0, 1) := by decide +kernel
theorem dX0_trailOf_56 : decode cX0_trailOf 56 = .ok (.getfield 30, 3) := by decide +kernel
theorem dX0_trailOf_59 : decode cX0_trailOf 59 = .ok (.iload 5, 2) := by decide +kernel
theorem dX0_trailOf_61 : decode cX0_trailOf 61 = .ok (.invokevirtual 115, 3) := by decide +kernel
theorem dX0_trailOf_64 : decode cX0_trailOf 64 = .ok (.istore_n 3, 1) := by decide +kernel
theorem dX0_trailOf_65 : decode cX0_trailOf 65 = .ok (.iinc 4 1, 3) := by decide +kernel
theorem dX0_trailOf_68 : decode cX0_trailOf 68 = .ok (.iinc 5 1, 3) := by decide +kernel
theorem dX0_trailOf_71 : decode cX0_trailOf 71 = .ok (.goto (-63), 3) := by decide +kernel
theorem dX0_trailOf_74 : decode cX0_trailOf 74 = .ok (.iload_n 2, 1) := by decide +kernel
theorem dX0_trailOf_75 : decode cX0_trailOf 75 = .ok (.iconst (-1), 1) := by decide +kernel
theorem dX0_trailOf_76 : decode cX0_trailOf 76 = .ok (.if_icmp .ne 8, 3) := by decide +kernel
theorem dX0_trailOf_79 : decode cX0_trailOf 79 = .ok (.iload 4, 2) := by decide +kernel
theorem dX0_trailOf_81 : decode cX0_trailOf 81 = .ok (.goto 4, 3) := by decide +kernel
theorem dX0_trailOf_84 : decode cX0_trailOf 84 = .ok (.iconst (-1), 1) := by decide +kernel
theorem dX0_trailOf_85 : decode cX0_trailOf 85 = .ok (.ireturn, 1) := by decide +kernel
theorem dX1_init_0 : decode cX1_init 0 = .ok (.aload_n 0, 1) := by decide +kernel
theorem dX1_init_1 : decode cX1_init 1 = .ok (.invokespecial 3, 3) := by decide +kernel
theorem dX1_init_4 : decode cX1_init 4 = .ok (.aload_n 0, 1) := by decide +kernel
theorem dX1_init_5 : decode cX1_init 5 = .ok (.bipush 9, 2) := by decide +kernel
theorem dX1_init_7 : decode cX1_init 7 = .ok (.anewarray 9, 3) := by decide +kernel
theorem dX1_init_10 : decode cX1_init 10 = .ok (.putfield 11, 3) := by decide +kernel
theorem dX1_init_13 : decode cX1_init 13 = .ok (.iconst 0, 1) := by decide +kernel
theorem dX1_init_14 : decode cX1_init 14 = .ok (.istore_n 1, 1) := by decide +kernel
theorem dX1_init_15 : decode cX1_init 15 = .ok (.iload_n 1, 1) := by decide +kernel
theorem dX1_init_16 : decode cX1_init 16 = .ok (.aload_n 0, 1) := by decide +kernel
theorem dX1_init_17 : decode cX1_init 17 = .ok (.getfield 11, 3) := by decide +kernel
theorem dX1_init_20 : decode cX1_init 20 = .ok (.arraylength, 1) := by decide +kernel
theorem dX1_init_21 : decode cX1_init 21 = .ok (.if_icmp .ge 22, 3) := by decide +kernel
theorem dX1_init_24 : decode cX1_init 24 = .ok (.aload_n 0, 1) := by decide +kernel
theorem dX1_init_25 : decode cX1_init 25 = .ok (.getfield 11, 3) := by decide +kernel
theorem dX1_init_28 : decode cX1_init 28 = .ok (.iload_n 1, 1) := by decide +kernel
theorem dX1_init_29 : decode cX1_init 29 = .ok (.new 9, 3) := by decide +kernel
theorem dX1_init_32 : decode cX1_init 32 = .ok (.dup, 1) := by decide +kernel
theorem dX1_init_33 : decode cX1_init 33 = .ok (.invokespecial 17, 3) := by decide +kernel
theorem dX1_init_36 : decode cX1_init 36 = .ok (.aastore, 1) := by decide +kernel
theorem dX1_init_37 : decode cX1_init 37 = .ok (.iinc 1 1, 3) := by decide +kernel
theorem dX1_init_40 : decode cX1_init 40 = .ok (.goto (-25), 3) := by decide +kernel
theorem dX1_init_43 : decode cX1_init 43 = .ok (.aload_n 0, 1) := by decide +kernel
theorem dX1_init_44 : decode cX1_init 44 = .ok (.iconst 0, 1) := by decide +kernel
theorem dX1_init_45 : decode cX1_init 45 = .ok (.putfield 18, 3) := by decide +kernel
theorem dX1_init_48 : decode cX1_init 48 = .ok (.aload_n 0, 1) := by decide +kernel
theorem dX1_init_49 : decode cX1_init 49 = .ok (.iconst 0, 1) := by decide +kernel
theorem dX1_init_50 : decode cX1_init 50 = .ok (.putfield 22, 3) := by decide +kernel
theorem dX1_init_53 : decode cX1_init 53 = .ok (.return_, 1) := by decide +kernel
theorem dX1_steps_0 : decode cX1_steps 0 = .ok (.aload_n 0, 1) := by decide +kernel
theorem dX1_steps_1 : decode cX1_steps 1 = .ok (.getfield 22, 3) := by decide +kernel
theorem dX1_steps_4 : decode cX1_steps 4 = .ok (.ireturn, 1) := by decide +kernel
theorem dX1_forget_0 : decode cX1_forget 0 = .ok (.aload_n 0, 1) := by decide +kernel
theorem dX1_forget_1 : decode cX1_forget 1 = .ok (.iconst 0, 1) := by decide +kernel
theorem dX1_forget_2 : decode cX1_forget 2 = .ok (.putfield 22, 3) := by decide +kernel
theorem dX1_forget_5 : decode cX1_forget 5 = .ok (.return_, 1) := by decide +kernel
theorem dX1_topSlot_0 : decode cX1_topSlot 0 = .ok (.aload_n 0, 1) := by decide +kernel
theorem dX1_topSlot_1 : decode cX1_topSlot 1 = .ok (.getfield 18, 3) := by decide +kernel
theorem dX1_topSlot_4 : decode cX1_topSlot 4 = .ok (.ifCond .lt 27, 3) := by decide +kernel
theorem dX1_topSlot_7 : decode cX1_topSlot 7 = .ok (.aload_n 0, 1) := by decide +kernel
theorem dX1_topSlot_8 : decode cX1_topSlot 8 = .ok (.getfield 18, 3) := by decide +kernel
theorem dX1_topSlot_11 : decode cX1_topSlot 11 = .ok (.aload_n 0, 1) := by decide +kernel
theorem dX1_topSlot_12 : decode cX1_topSlot 12 = .ok (.getfield 11, 3) := by decide +kernel
theorem dX1_topSlot_15 : decode cX1_topSlot 15 = .ok (.arraylength, 1) := by decide +kernel
theorem dX1_topSlot_16 : decode cX1_topSlot 16 = .ok (.if_icmp .ge 15, 3) := by decide +kernel
theorem dX1_topSlot_19 : decode cX1_topSlot 19 = .ok (.aload_n 0, 1) := by decide +kernel
theorem dX1_topSlot_20 : decode cX1_topSlot 20 = .ok (.getfield 11, 3) := by decide +kernel
theorem dX1_topSlot_23 : decode cX1_topSlot 23 = .ok (.aload_n 0, 1) := by decide +kernel
theorem dX1_topSlot_24 : decode cX1_topSlot 24 = .ok (.getfield 18, 3) := by decide +kernel
theorem dX1_topSlot_27 : decode cX1_topSlot 27 = .ok (.aaload, 1) := by decide +kernel
theorem dX1_topSlot_28 : decode cX1_topSlot 28 = .ok (.goto 4, 3) := by decide +kernel
theorem dX1_topSlot_31 : decode cX1_topSlot 31 = .ok (.aconst_null, 1) := by decide +kernel
theorem dX1_topSlot_32 : decode cX1_topSlot 32 = .ok (.areturn, 1) := by decide +kernel
theorem dX1_remember_0 : decode cX1_remember 0 = .ok (.aload_n 0, 1) := by decide +kernel
theorem dX1_remember_1 : decode cX1_remember 1 = .ok (.invokevirtual 25, 3) := by decide +kernel
theorem dX1_remember_4 : decode cX1_remember 4 = .ok (.astore_n 2, 1) := by decide +kernel
theorem dX1_remember_5 : decode cX1_remember 5 = .ok (.aload_n 2, 1) := by decide +kernel
theorem dX1_remember_6 : decode cX1_remember 6 = .ok (.ifnull 8, 3) := by decide +kernel
theorem dX1_remember_9 : decode cX1_remember 9 = .ok (.aload_n 1, 1) := by decide +kernel
theorem dX1_remember_10 : decode cX1_remember 10 = .ok (.aload_n 2, 1) := by decide +kernel
theorem dX1_remember_11 : decode cX1_remember 11 = .ok (.invokevirtual 29, 3) := by decide +kernel
theorem dX1_remember_14 : decode cX1_remember 14 = .ok (.return_, 1) := by decide +kernel
theorem dX1_giveBack_0 : decode cX1_giveBack 0 = .ok (.aload_n 0, 1) := by decide +kernel
theorem dX1_giveBack_1 : decode cX1_giveBack 1 = .ok (.invokevirtual 25, 3) := by decide +kernel
theorem dX1_giveBack_4 : decode cX1_giveBack 4 = .ok (.astore_n 2, 1) := by decide +kernel
theorem dX1_giveBack_5 : decode cX1_giveBack 5 = .ok (.aload_n 2, 1) := by decide +kernel
theorem dX1_giveBack_6 : decode cX1_giveBack 6 = .ok (.ifnull 8, 3) := by decide +kernel
theorem dX1_giveBack_9 : decode cX1_giveBack 9 = .ok (.aload_n 1, 1) := by decide +kernel
theorem dX1_giveBack_10 : decode cX1_giveBack 10 = .ok (.aload_n 2, 1) := by decide +kernel
theorem dX1_giveBack_11 : decode cX1_giveBack 11 = .ok (.invokevirtual 35, 3) := by decide +kernel
theorem dX1_giveBack_14 : decode cX1_giveBack 14 = .ok (.return_, 1) := by decide +kernel
theorem dX1_keep_0 : decode cX1_keep 0 = .ok (.aload_n 0, 1) := by decide +kernel
theorem dX1_keep_1 : decode cX1_keep 1 = .ok (.aload_n 0, 1) := by decide +kernel
theorem dX1_keep_2 : decode cX1_keep 2 = .ok (.getfield 18, 3) := by decide +kernel
theorem dX1_keep_5 : decode cX1_keep 5 = .ok (.bipush 8, 2) := by decide +kernel
theorem dX1_keep_7 : decode cX1_keep 7 = .ok (.if_icmp .ge 12, 3) := by decide +kernel
theorem dX1_keep_10 : decode cX1_keep 10 = .ok (.aload_n 0, 1) := by decide +kernel
theorem dX1_keep_11 : decode cX1_keep 11 = .ok (.getfield 18, 3) := by decide +kernel
theorem dX1_keep_14 : decode cX1_keep 14 = .ok (.iconst 1, 1) := by decide +kernel
theorem dX1_keep_15 : decode cX1_keep 15 = .ok (.iadd, 1) := by decide +kernel
theorem dX1_keep_16 : decode cX1_keep 16 = .ok (.goto 4, 3) := by decide +kernel
theorem dX1_keep_19 : decode cX1_keep 19 = .ok (.iconst 0, 1) := by decide +kernel
theorem dX1_keep_20 : decode cX1_keep 20 = .ok (.putfield 18, 3) := by decide +kernel
theorem dX1_keep_23 : decode cX1_keep 23 = .ok (.aload_n 0, 1) := by decide +kernel
theorem dX1_keep_24 : decode cX1_keep 24 = .ok (.aload_n 0, 1) := by decide +kernel
theorem dX1_keep_25 : decode cX1_keep 25 = .ok (.getfield 22, 3) := by decide +kernel
theorem dX1_keep_28 : decode cX1_keep 28 = .ok (.iconst 1, 1) := by decide +kernel
theorem dX1_keep_29 : decode cX1_keep 29 = .ok (.iadd, 1) := by decide +kernel
theorem dX1_keep_30 : decode cX1_keep 30 = .ok (.bipush 8, 2) := by decide +kernel
theorem dX1_keep_32 : decode cX1_keep 32 = .ok (.invokestatic 38, 3) := by decide +kernel
theorem dX1_keep_35 : decode cX1_keep 35 = .ok (.putfield 22, 3) := by decide +kernel
theorem dX1_keep_38 : decode cX1_keep 38 = .ok (.return_, 1) := by decide +kernel
theorem dX1_stepBack_0 : decode cX1_stepBack 0 = .ok (.aload_n 0, 1) := by decide +kernel
theorem dX1_stepBack_1 : decode cX1_stepBack 1 = .ok (.getfield 22, 3) := by decide +kernel
theorem dX1_stepBack_4 : decode cX1_stepBack 4 = .ok (.ifCond .ne 5, 3) := by decide +kernel
theorem dX1_stepBack_7 : decode cX1_stepBack 7 = .ok (.iconst 0, 1) := by decide +kernel
theorem dX1_stepBack_8 : decode cX1_stepBack 8 = .ok (.ireturn, 1) := by decide +kernel
theorem dX1_stepBack_9 : decode cX1_stepBack 9 = .ok (.aload_n 0, 1) := by decide +kernel
theorem dX1_stepBack_10 : decode cX1_stepBack 10 = .ok (.aload_n 0, 1) := by decide +kernel
theorem dX1_stepBack_11 : decode cX1_stepBack 11 = .ok (.getfield 18, 3) := by decide +kernel
theorem dX1_stepBack_14 : decode cX1_stepBack 14 = .ok (.ifCond .le 12, 3) := by decide +kernel
theorem dX1_stepBack_17 : decode cX1_stepBack 17 = .ok (.aload_n 0, 1) := by decide +kernel
theorem dX1_stepBack_18 : decode cX1_stepBack 18 = .ok (.getfield 18, 3) := by decide +kernel
theorem dX1_stepBack_21 : decode cX1_stepBack 21 = .ok (.iconst 1, 1) := by decide +kernel
theorem dX1_stepBack_22 : decode cX1_stepBack 22 = .ok (.isub, 1) := by decide +kernel
theorem dX1_stepBack_23 : decode cX1_stepBack 23 = .ok (.goto 5, 3) := by decide +kernel
theorem dX1_stepBack_26 : decode cX1_stepBack 26 = .ok (.bipush 8, 2) := by decide +kernel
theorem dX1_stepBack_28 : decode cX1_stepBack 28 = .ok (.putfield 18, 3) := by decide +kernel
theorem dX1_stepBack_31 : decode cX1_stepBack 31 = .ok (.aload_n 0, 1) := by decide +kernel
theorem dX1_stepBack_32 : decode cX1_stepBack 32 = .ok (.dup, 1) := by decide +kernel
theorem dX1_stepBack_33 : decode cX1_stepBack 33 = .ok (.getfield 22, 3) := by decide +kernel
theorem dX1_stepBack_36 : decode cX1_stepBack 36 = .ok (.iconst 1, 1) := by decide +kernel
theorem dX1_stepBack_37 : decode cX1_stepBack 37 = .ok (.isub, 1) := by decide +kernel
theorem dX1_stepBack_38 : decode cX1_stepBack 38 = .ok (.putfield 22, 3) := by decide +kernel
theorem dX1_stepBack_41 : decode cX1_stepBack 41 = .ok (.aload_n 0, 1) := by decide +kernel
theorem dX1_stepBack_42 : decode cX1_stepBack 42 = .ok (.aload_n 1, 1) := by decide +kernel
theorem dX1_stepBack_43 : decode cX1_stepBack 43 = .ok (.invokevirtual 44, 3) := by decide +kernel
theorem dX1_stepBack_46 : decode cX1_stepBack 46 = .ok (.iconst 1, 1) := by decide +kernel
theorem dX1_stepBack_47 : decode cX1_stepBack 47 = .ok (.ireturn, 1) := by decide +kernel
theorem dX2_init_0 : decode cX2_init 0 = .ok (.aload_n 0, 1) := by decide +kernel
theorem dX2_init_1 : decode cX2_init 1 = .ok (.invokespecial 3, 3) := by decide +kernel
theorem dX2_init_4 : decode cX2_init 4 = .ok (.aload_n 0, 1) := by decide +kernel
theorem dX2_init_5 : decode cX2_init 5 = .ok (.sipush 200, 3) := by decide +kernel
theorem dX2_init_8 : decode cX2_init 8 = .ok (.newarray .int, 2) := by decide +kernel
theorem dX2_init_10 : decode cX2_init 10 = .ok (.putfield 9, 3) := by decide +kernel
theorem dX2_init_13 : decode cX2_init 13 = .ok (.aload_n 0, 1) := by decide +kernel
theorem dX2_init_14 : decode cX2_init 14 = .ok (.iconst 0, 1) := by decide +kernel
theorem dX2_init_15 : decode cX2_init 15 = .ok (.putfield 15, 3) := by decide +kernel
theorem dX2_init_18 : decode cX2_init 18 = .ok (.aload_n 0, 1) := by decide +kernel
theorem dX2_init_19 : decode cX2_init 19 = .ok (.iconst (-1), 1) := by decide +kernel
theorem dX2_init_20 : decode cX2_init 20 = .ok (.putfield 19, 3) := by decide +kernel
theorem dX2_init_23 : decode cX2_init 23 = .ok (.return_, 1) := by decide +kernel
theorem dX2_length_0 : decode cX2_length 0 = .ok (.aload_n 0, 1) := by decide +kernel
theorem dX2_length_1 : decode cX2_length 1 = .ok (.getfield 15, 3) := by decide +kernel
theorem dX2_length_4 : decode cX2_length 4 = .ok (.ireturn, 1) := by decide +kernel
theorem dX2_signAt_0 : decode cX2_signAt 0 = .ok (.iload_n 1, 1) := by decide +kernel
theorem dX2_signAt_1 : decode cX2_signAt 1 = .ok (.ifCond .lt 29, 3) := by decide +kernel
theorem dX2_signAt_4 : decode cX2_signAt 4 = .ok (.iload_n 1, 1) := by decide +kernel
theorem dX2_signAt_5 : decode cX2_signAt 5 = .ok (.aload_n 0, 1) := by decide +kernel
theorem dX2_signAt_6 : decode cX2_signAt 6 = .ok (.getfield 15, 3) := by decide +kernel
theorem dX2_signAt_9 : decode cX2_signAt 9 = .ok (.if_icmp .ge 21, 3) := by decide +kernel
theorem dX2_signAt_12 : decode cX2_signAt 12 = .ok (.iload_n 1, 1) := by decide +kernel
theorem dX2_signAt_13 : decode cX2_signAt 13 = .ok (.aload_n 0, 1) := by decide +kernel
theorem dX2_signAt_14 : decode cX2_signAt 14 = .ok (.getfield 9, 3) := by decide +kernel
theorem dX2_signAt_17 : decode cX2_signAt 17 = .ok (.arraylength, 1) := by decide +kernel
theorem dX2_signAt_18 : decode cX2_signAt 18 = .ok (.if_icmp .ge 12, 3) := by decide +kernel
theorem dX2_signAt_21 : decode cX2_signAt 21 = .ok (.aload_n 0, 1) := by decide +kernel
theorem dX2_signAt_22 : decode cX2_signAt 22 = .ok (.getfield 9, 3) := by decide +kernel
theorem dX2_signAt_25 : decode cX2_signAt 25 = .ok (.iload_n 1, 1) := by decide +kernel
theorem dX2_signAt_26 : decode cX2_signAt 26 = .ok (.iaload, 1) := by decide +kernel
theorem dX2_signAt_27 : decode cX2_signAt 27 = .ok (.goto 4, 3) := by decide +kernel
theorem dX2_signAt_30 : decode cX2_signAt 30 = .ok (.iconst (-1), 1) := by decide +kernel
theorem dX2_signAt_31 : decode cX2_signAt 31 = .ok (.ireturn, 1) := by decide +kernel
theorem dX2_wipe_0 : decode cX2_wipe 0 = .ok (.aload_n 0, 1) := by decide +kernel
theorem dX2_wipe_1 : decode cX2_wipe 1 = .ok (.iconst 0, 1) := by decide +kernel
theorem dX2_wipe_2 : decode cX2_wipe 2 = .ok (.putfield 15, 3) := by decide +kernel
theorem dX2_wipe_5 : decode cX2_wipe 5 = .ok (.aload_n 0, 1) := by decide +kernel
theorem dX2_wipe_6 : decode cX2_wipe 6 = .ok (.iconst (-1), 1) := by decide +kernel
theorem dX2_wipe_7 : decode cX2_wipe 7 = .ok (.putfield 19, 3) := by decide +kernel
theorem dX2_wipe_10 : decode cX2_wipe 10 = .ok (.return_, 1) := by decide +kernel
theorem dX2_copyFrom_0 : decode cX2_copyFrom 0 = .ok (.aload_n 1, 1) := by decide +kernel
theorem dX2_copyFrom_1 : decode cX2_copyFrom 1 = .ok (.getfield 9, 3) := by decide +kernel
theorem dX2_copyFrom_4 : decode cX2_copyFrom 4 = .ok (.iconst 0, 1) := by decide +kernel
theorem dX2_copyFrom_5 : decode cX2_copyFrom 5 = .ok (.aload_n 0, 1) := by decide +kernel
theorem dX2_copyFrom_6 : decode cX2_copyFrom 6 = .ok (.getfield 9, 3) := by decide +kernel
theorem dX2_copyFrom_9 : decode cX2_copyFrom 9 = .ok (.iconst 0, 1) := by decide +kernel
theorem dX2_copyFrom_10 : decode cX2_copyFrom 10 = .ok (.sipush 200, 3) := by decide +kernel
theorem dX2_copyFrom_13 : decode cX2_copyFrom 13 = .ok (.invokestatic 22, 3) := by decide +kernel
theorem dX2_copyFrom_16 : decode cX2_copyFrom 16 = .ok (.aload_n 0, 1) := by decide +kernel
theorem dX2_copyFrom_17 : decode cX2_copyFrom 17 = .ok (.aload_n 1, 1) := by decide +kernel
theorem dX2_copyFrom_18 : decode cX2_copyFrom 18 = .ok (.getfield 15, 3) := by decide +kernel
theorem dX2_copyFrom_21 : decode cX2_copyFrom 21 = .ok (.putfield 15, 3) := by decide +kernel
theorem dX2_copyFrom_24 : decode cX2_copyFrom 24 = .ok (.aload_n 0, 1) := by decide +kernel
theorem dX2_copyFrom_25 : decode cX2_copyFrom 25 = .ok (.aload_n 1, 1) := by decide +kernel
theorem dX2_copyFrom_26 : decode cX2_copyFrom 26 = .ok (.getfield 19, 3) := by decide +kernel
theorem dX2_copyFrom_29 : decode cX2_copyFrom 29 = .ok (.putfield 19, 3) := by decide +kernel
theorem dX2_copyFrom_32 : decode cX2_copyFrom 32 = .ok (.return_, 1) := by decide +kernel
theorem dX2_writeLabel_0 : decode cX2_writeLabel 0 = .ok (.aload_n 0, 1) := by decide +kernel
theorem dX2_writeLabel_1 : decode cX2_writeLabel 1 = .ok (.invokevirtual 28, 3) := by decide +kernel
theorem dX2_writeLabel_4 : decode cX2_writeLabel 4 = .ok (.iconst 0, 1) := by decide +kernel
theorem dX2_writeLabel_5 : decode cX2_writeLabel 5 = .ok (.istore_n 3, 1) := by decide +kernel
theorem dX2_writeLabel_6 : decode cX2_writeLabel 6 = .ok (.iload_n 3, 1) := by decide +kernel
theorem dX2_writeLabel_7 : decode cX2_writeLabel 7 = .ok (.aload_n 1, 1) := by decide +kernel
theorem dX2_writeLabel_8 : decode cX2_writeLabel 8 = .ok (.invokevirtual 31, 3) := by decide +kernel
theorem dX2_writeLabel_11 : decode cX2_writeLabel 11 = .ok (.if_icmp .ge 16, 3) := by decide +kernel
theorem dX2_writeLabel_14 : decode cX2_writeLabel 14 = .ok (.aload_n 0, 1) := by decide +kernel
theorem dX2_writeLabel_15 : decode cX2_writeLabel 15 = .ok (.aload_n 1, 1) := by decide +kernel
theorem dX2_writeLabel_16 : decode cX2_writeLabel 16 = .ok (.iload_n 3, 1) := by decide +kernel
theorem dX2_writeLabel_17 : decode cX2_writeLabel 17 = .ok (.iload_n 2, 1) := by decide +kernel
theorem dX2_writeLabel_18 : decode cX2_writeLabel 18 = .ok (.invokevirtual 37, 3) := by decide +kernel
theorem dX2_writeLabel_21 : decode cX2_writeLabel 21 = .ok (.iinc 3 1, 3) := by decide +kernel
theorem dX2_writeLabel_24 : decode cX2_writeLabel 24 = .ok (.goto (-18), 3) := by decide +kernel
theorem dX2_writeLabel_27 : decode cX2_writeLabel 27 = .ok (.aload_n 0, 1) := by decide +kernel
theorem dX2_writeLabel_28 : decode cX2_writeLabel 28 = .ok (.aload_n 1, 1) := by decide +kernel
theorem dX2_writeLabel_29 : decode cX2_writeLabel 29 = .ok (.iconst (-1), 1) := by decide +kernel
theorem dX2_writeLabel_30 : decode cX2_writeLabel 30 = .ok (.iload_n 2, 1) := by decide +kernel
theorem dX2_writeLabel_31 : decode cX2_writeLabel 31 = .ok (.invokevirtual 37, 3) := by decide +kernel
theorem dX2_writeLabel_34 : decode cX2_writeLabel 34 = .ok (.return_, 1) := by decide +kernel
theorem dX2_writePart_0 : decode cX2_writePart 0 = .ok (.aload_n 1, 1) := by decide +kernel
theorem dX2_writePart_1 : decode cX2_writePart 1 = .ok (.iload_n 2, 1) := by decide +kernel
theorem dX2_writePart_2 : decode cX2_writePart 2 = .ok (.iload_n 3, 1) := by decide +kernel
theorem dX2_writePart_3 : decode cX2_writePart 3 = .ok (.invokevirtual 41, 3) := by decide +kernel
theorem dX2_writePart_6 : decode cX2_writePart 6 = .ok (.ifCond .ne 4, 3) := by decide +kernel
theorem dX2_writePart_9 : decode cX2_writePart 9 = .ok (.return_, 1) := by decide +kernel
theorem dX2_writePart_10 : decode cX2_writePart 10 = .ok (.aload_n 0, 1) := by decide +kernel
theorem dX2_writePart_11 : decode cX2_writePart 11 = .ok (.getfield 15, 3) := by decide +kernel
theorem dX2_writePart_14 : decode cX2_writePart 14 = .ok (.ifCond .le 9, 3) := by decide +kernel
theorem dX2_writePart_17 : decode cX2_writePart 17 = .ok (.aload_n 0, 1) := by decide +kernel
theorem dX2_writePart_18 : decode cX2_writePart 18 = .ok (.bipush 59, 2) := by decide +kernel
theorem dX2_writePart_20 : decode cX2_writePart 20 = .ok (.invokevirtual 45, 3) := by decide +kernel
theorem dX2_writePart_23 : decode cX2_writePart 23 = .ok (.iload_n 2, 1) := by decide +kernel
theorem dX2_writePart_24 : decode cX2_writePart 24 = .ok (.iconst (-1), 1) := by decide +kernel
theorem dX2_writePart_25 : decode cX2_writePart 25 = .ok (.if_icmp .ne 12, 3) := by decide +kernel
theorem dX2_writePart_28 : decode cX2_writePart 28 = .ok (.aload_n 0, 1) := by decide +kernel
theorem dX2_writePart_29 : decode cX2_writePart 29 = .ok (.bipush 120, 2) := by decide +kernel
theorem dX2_writePart_31 : decode cX2_writePart 31 = .ok (.invokevirtual 45, 3) := by decide +kernel
theorem dX2_writePart_34 : decode cX2_writePart 34 = .ok (.goto 8, 3) := by decide +kernel
theorem dX2_writePart_37 : decode cX2_writePart 37 = .ok (.aload_n 0, 1) := by decide +kernel
theorem dX2_writePart_38 : decode cX2_writePart 38 = .ok (.iload_n 2, 1) := by decide +kernel
theorem dX2_writePart_39 : decode cX2_writePart 39 = .ok (.invokevirtual 49, 3) := by decide +kernel
theorem dX2_writePart_42 : decode cX2_writePart 42 = .ok (.aload_n 0, 1) := by decide +kernel
theorem dX2_writePart_43 : decode cX2_writePart 43 = .ok (.bipush 58, 2) := by decide +kernel
theorem dX2_writePart_45 : decode cX2_writePart 45 = .ok (.invokevirtual 45, 3) := by decide +kernel
theorem dX2_writePart_48 : decode cX2_writePart 48 = .ok (.aload_n 1, 1) := by decide +kernel
theorem dX2_writePart_49 : decode cX2_writePart 49 = .ok (.iload_n 2, 1) := by decide +kernel
theorem dX2_writePart_50 : decode cX2_writePart 50 = .ok (.invokevirtual 52, 3) := by decide +kernel
theorem dX2_writePart_53 : decode cX2_writePart 53 = .ok (.istore 4, 2) := by decide +kernel
theorem dX2_writePart_55 : decode cX2_writePart 55 = .ok (.aload_n 1, 1) := by decide +kernel
theorem dX2_writePart_56 : decode cX2_writePart 56 = .ok (.iload_n 2, 1) := by decide +kernel
theorem dX2_writePart_57 : decode cX2_writePart 57 = .ok (.invokevirtual 56, 3) := by decide +kernel
theorem dX2_writePart_60 : decode cX2_writePart 60 = .ok (.istore 5, 2) := by decide +kernel
theorem dX2_writePart_62 : decode cX2_writePart 62 = .ok (.aload_n 1, 1) := by decide +kernel
theorem dX2_writePart_63 : decode cX2_writePart 63 = .ok (.invokevirtual 59, 3) := by decide +kernel
theorem dX2_writePart_66 : decode cX2_writePart 66 = .ok (.astore 6, 2) := by decide +kernel
theorem dX2_writePart_68 : decode cX2_writePart 68 = .ok (.iconst 0, 1) := by decide +kernel
theorem dX2_writePart_69 : decode cX2_writePart 69 = .ok (.istore 7, 2) := by decide +kernel
theorem dX2_writePart_71 : decode cX2_writePart 71 = .ok (.iload 7, 2) := by decide +kernel
theorem dX2_writePart_73 : decode cX2_writePart 73 = .ok (.aload 6, 2) := by decide +kernel
theorem dX2_writePart_75 : decode cX2_writePart 75 = .ok (.invokevirtual 63, 3) := by decide +kernel
theorem dX2_writePart_78 : decode cX2_writePart 78 = .ok (.if_icmp .ge 75, 3) := by decide +kernel
theorem dX2_writePart_81 : decode cX2_writePart 81 = .ok (.aload 6, 2) := by decide +kernel
theorem dX2_writePart_83 : decode cX2_writePart 83 = .ok (.iload 7, 2) := by decide +kernel
theorem dX2_writePart_85 : decode cX2_writePart 85 = .ok (.invokevirtual 68, 3) := by decide +kernel
theorem dX2_writePart_88 : decode cX2_writePart 88 = .ok (.iload_n 3, 1) := by decide +kernel
theorem dX2_writePart_89 : decode cX2_writePart 89 = .ok (.if_icmp .ne 58, 3) := by decide +kernel
theorem dX2_writePart_92 : decode cX2_writePart 92 = .ok (.aload 6, 2) := by decide +kernel
theorem dX2_writePart_94 : decode cX2_writePart 94 = .ok (.iload 7, 2) := by decide +kernel
theorem dX2_writePart_96 : decode cX2_writePart 96 = .ok (.iload 4, 2) := by decide +kernel
theorem dX2_writePart_98 : decode cX2_writePart 98 = .ok (.iload 5, 2) := by decide +kernel
theorem dX2_writePart_100 : decode cX2_writePart 100 = .ok (.invokevirtual 71, 3) := by decide +kernel
theorem dX2_writePart_103 : decode cX2_writePart 103 = .ok (.ifCond .eq 44, 3) := by decide +kernel
theorem dX2_writePart_106 : decode cX2_writePart 106 = .ok (.aload 6, 2) := by decide +kernel
theorem dX2_writePart_108 : decode cX2_writePart 108 = .ok (.iload 7, 2) := by decide +kernel
theorem dX2_writePart_110 : decode cX2_writePart 110 = .ok (.invokevirtual 75, 3) := by decide +kernel
theorem dX2_writePart_113 : decode cX2_writePart 113 = .ok (.iload 4, 2) := by decide +kernel
theorem dX2_writePart_115 : decode cX2_writePart 115 = .ok (.invokestatic 78, 3) := by decide +kernel
theorem dX2_writePart_118 : decode cX2_writePart 118 = .ok (.istore 8, 2) := by decide +kernel
theorem dX2_writePart_120 : decode cX2_writePart 120 = .ok (.aload 6, 2) := by decide +kernel
theorem dX2_writePart_122 : decode cX2_writePart 122 = .ok (.iload 7, 2) := by decide +kernel
theorem dX2_writePart_124 : decode cX2_writePart 124 = .ok (.invokevirtual 83, 3) := by decide +kernel
theorem dX2_writePart_127 : decode cX2_writePart 127 = .ok (.iload 5, 2) := by decide +kernel
theorem dX2_writePart_129 : decode cX2_writePart 129 = .ok (.invokestatic 86, 3) := by decide +kernel
theorem dX2_writePart_132 : decode cX2_writePart 132 = .ok (.istore 9, 2) := by decide +kernel
theorem dX2_writePart_134 : decode cX2_writePart 134 = .ok (.aload_n 0, 1) := by decide +kernel
theorem dX2_writePart_135 : decode cX2_writePart 135 = .ok (.aload_n 1, 1) := by decide +kernel
theorem dX2_writePart_136 : decode cX2_writePart 136 = .ok (.invokevirtual 89, 3) := by decide +kernel
theorem dX2_writePart_139 : decode cX2_writePart 139 = .ok (.iload_n 2, 1) := by decide +kernel
theorem dX2_writePart_140 : decode cX2_writePart 140 = .ok (.iload 8, 2) := by decide +kernel
theorem dX2_writePart_142 : decode cX2_writePart 142 = .ok (.iload 9, 2) := by decide +kernel
theorem dX2_writePart_144 : decode cX2_writePart 144 = .ok (.invokevirtual 92, 3) := by decide +kernel
theorem dX2_writePart_147 : decode cX2_writePart 147 = .ok (.iinc 7 1, 3) := by decide +kernel
theorem dX2_writePart_150 : decode cX2_writePart 150 = .ok (.goto (-79), 3) := by decide +kernel
theorem dX2_writePart_153 : decode cX2_writePart 153 = .ok (.return_, 1) := by decide +kernel
theorem dX2_writeOwn_0 : decode cX2_writeOwn 0 = .ok (.aload_n 1, 1) := by decide +kernel
theorem dX2_writeOwn_1 : decode cX2_writeOwn 1 = .ok (.iload_n 2, 1) := by decide +kernel
theorem dX2_writeOwn_2 : decode cX2_writeOwn 2 = .ok (.iload_n 3, 1) := by decide +kernel
theorem dX2_writeOwn_3 : decode cX2_writeOwn 3 = .ok (.invokevirtual 96, 3) := by decide +kernel
theorem dX2_writeOwn_6 : decode cX2_writeOwn 6 = .ok (.istore 5, 2) := by decide +kernel
theorem dX2_writeOwn_8 : decode cX2_writeOwn 8 = .ok (.iconst 0, 1) := by decide +kernel
theorem dX2_writeOwn_9 : decode cX2_writeOwn 9 = .ok (.istore 6, 2) := by decide +kernel
theorem dX2_writeOwn_11 : decode cX2_writeOwn 11 = .ok (.iload 6, 2) := by decide +kernel
theorem dX2_writeOwn_13 : decode cX2_writeOwn 13 = .ok (.aload_n 1, 1) := by decide +kernel
theorem dX2_writeOwn_14 : decode cX2_writeOwn 14 = .ok (.invokevirtual 63, 3) := by decide +kernel
theorem dX2_writeOwn_17 : decode cX2_writeOwn 17 = .ok (.if_icmp .gt 46, 3) := by decide +kernel
theorem dX2_writeOwn_20 : decode cX2_writeOwn 20 = .ok (.iload 5, 2) := by decide +kernel
theorem dX2_writeOwn_22 : decode cX2_writeOwn 22 = .ok (.iload 4, 2) := by decide +kernel
theorem dX2_writeOwn_24 : decode cX2_writeOwn 24 = .ok (.if_icmp .gt 39, 3) := by decide +kernel
theorem dX2_writeOwn_27 : decode cX2_writeOwn 27 = .ok (.aload_n 1, 1) := by decide +kernel
theorem dX2_writeOwn_28 : decode cX2_writeOwn 28 = .ok (.iload_n 2, 1) := by decide +kernel
theorem dX2_writeOwn_29 : decode cX2_writeOwn 29 = .ok (.iload 5, 2) := by decide +kernel
theorem dX2_writeOwn_31 : decode cX2_writeOwn 31 = .ok (.iload 4, 2) := by decide +kernel
theorem dX2_writeOwn_33 : decode cX2_writeOwn 33 = .ok (.invokevirtual 99, 3) := by decide +kernel
theorem dX2_writeOwn_36 : decode cX2_writeOwn 36 = .ok (.istore 7, 2) := by decide +kernel
theorem dX2_writeOwn_38 : decode cX2_writeOwn 38 = .ok (.aload_n 0, 1) := by decide +kernel
theorem dX2_writeOwn_39 : decode cX2_writeOwn 39 = .ok (.iload 5, 2) := by decide +kernel
theorem dX2_writeOwn_41 : decode cX2_writeOwn 41 = .ok (.iload 7, 2) := by decide +kernel
theorem dX2_writeOwn_43 : decode cX2_writeOwn 43 = .ok (.invokevirtual 103, 3) := by decide +kernel
theorem dX2_writeOwn_46 : decode cX2_writeOwn 46 = .ok (.aload_n 1, 1) := by decide +kernel
theorem dX2_writeOwn_47 : decode cX2_writeOwn 47 = .ok (.iload_n 2, 1) := by decide +kernel
theorem dX2_writeOwn_48 : decode cX2_writeOwn 48 = .ok (.iload 7, 2) := by decide +kernel
theorem dX2_writeOwn_50 : decode cX2_writeOwn 50 = .ok (.iconst 1, 1) := by decide +kernel
theorem dX2_writeOwn_51 : decode cX2_writeOwn 51 = .ok (.iadd, 1) := by decide +kernel
theorem dX2_writeOwn_52 : decode cX2_writeOwn 52 = .ok (.invokevirtual 96, 3) := by decide +kernel
theorem dX2_writeOwn_55 : decode cX2_writeOwn 55 = .ok (.istore 5, 2) := by decide +kernel
theorem dX2_writeOwn_57 : decode cX2_writeOwn 57 = .ok (.iinc 6 1, 3) := by decide +kernel
theorem dX2_writeOwn_60 : decode cX2_writeOwn 60 = .ok (.goto (-49), 3) := by decide +kernel
theorem dX2_writeOwn_63 : decode cX2_writeOwn 63 = .ok (.return_, 1) := by decide +kernel
theorem dX2_putRange_0 : decode cX2_putRange 0 = .ok (.aload_n 0, 1) := by decide +kernel
theorem dX2_putRange_1 : decode cX2_putRange 1 = .ok (.getfield 19, 3) := by decide +kernel
theorem dX2_putRange_4 : decode cX2_putRange 4 = .ok (.bipush 58, 2) := by decide +kernel
theorem dX2_putRange_6 : decode cX2_putRange 6 = .ok (.if_icmp .eq 9, 3) := by decide +kernel
theorem dX2_putRange_9 : decode cX2_putRange 9 = .ok (.aload_n 0, 1) := by decide +kernel
theorem dX2_putRange_10 : decode cX2_putRange 10 = .ok (.bipush 44, 2) := by decide +kernel
theorem dX2_putRange_12 : decode cX2_putRange 12 = .ok (.invokevirtual 45, 3) := by decide +kernel
theorem dX2_putRange_15 : decode cX2_putRange 15 = .ok (.aload_n 0, 1) := by decide +kernel
theorem dX2_putRange_16 : decode cX2_putRange 16 = .ok (.iload_n 1, 1) := by decide +kernel
theorem dX2_putRange_17 : decode cX2_putRange 17 = .ok (.invokevirtual 49, 3) := by decide +kernel
theorem dX2_putRange_20 : decode cX2_putRange 20 = .ok (.iload_n 2, 1) := by decide +kernel
theorem dX2_putRange_21 : decode cX2_putRange 21 = .ok (.iload_n 1, 1) := by decide +kernel
theorem dX2_putRange_22 : decode cX2_putRange 22 = .ok (.if_icmp .le 14, 3) := by decide +kernel
theorem dX2_putRange_25 : decode cX2_putRange 25 = .ok (.aload_n 0, 1) := by decide +kernel
theorem dX2_putRange_26 : decode cX2_putRange 26 = .ok (.bipush 45, 2) := by decide +kernel
theorem dX2_putRange_28 : decode cX2_putRange 28 = .ok (.invokevirtual 45, 3) := by decide +kernel
theorem dX2_putRange_31 : decode cX2_putRange 31 = .ok (.aload_n 0, 1) := by decide +kernel
theorem dX2_putRange_32 : decode cX2_putRange 32 = .ok (.iload_n 2, 1) := by decide +kernel
theorem dX2_putRange_33 : decode cX2_putRange 33 = .ok (.invokevirtual 49, 3) := by decide +kernel
theorem dX2_putRange_36 : decode cX2_putRange 36 = .ok (.return_, 1) := by decide +kernel
theorem dX2_putNumber_0 : decode cX2_putNumber 0 = .ok (.iconst 0, 1) := by decide +kernel
theorem dX2_putNumber_1 : decode cX2_putNumber 1 = .ok (.istore_n 2, 1) := by decide +kernel
theorem dX2_putNumber_2 : decode cX2_putNumber 2 = .ok (.ldc 107, 2) := by decide +kernel
theorem dX2_putNumber_4 : decode cX2_putNumber 4 = .ok (.istore_n 3, 1) := by decide +kernel
theorem dX2_putNumber_5 : decode cX2_putNumber 5 = .ok (.iload_n 3, 1) := by decide +kernel
theorem dX2_putNumber_6 : decode cX2_putNumber 6 = .ok (.ifCond .le 52, 3) := by decide +kernel
theorem dX2_putNumber_9 : decode cX2_putNumber 9 = .ok (.iload_n 1, 1) := by decide +kernel
theorem dX2_putNumber_10 : decode cX2_putNumber 10 = .ok (.iload_n 3, 1) := by decide +kernel
theorem dX2_putNumber_11 : decode cX2_putNumber 11 = .ok (.idiv, 1) := by decide +kernel
theorem dX2_putNumber_12 : decode cX2_putNumber 12 = .ok (.bipush 10, 2) := by decide +kernel
theorem dX2_putNumber_14 : decode cX2_putNumber 14 = .ok (.irem, 1) := by decide +kernel
theorem dX2_putNumber_15 : decode cX2_putNumber 15 = .ok (.istore 4, 2) := by decide +kernel
theorem dX2_putNumber_17 : decode cX2_putNumber 17 = .ok (.iload_n 2, 1) := by decide +kernel
theorem dX2_putNumber_18 : decode cX2_putNumber 18 = .ok (.ifCond .ne 13, 3) := by decide +kernel
theorem dX2_putNumber_21 : decode cX2_putNumber 21 = .ok (.iload 4, 2) := by decide +kernel
theorem dX2_putNumber_23 : decode cX2_putNumber 23 = .ok (.ifCond .ne 8, 3) := by decide +kernel
theorem dX2_putNumber_26 : decode cX2_putNumber 26 = .ok (.iload_n 3, 1) := by decide +kernel
theorem dX2_putNumber_27 : decode cX2_putNumber 27 = .ok (.iconst 1, 1) := by decide +kernel
theorem dX2_putNumber_28 : decode cX2_putNumber 28 = .ok (.if_icmp .ne 7, 3) := by decide +kernel
theorem dX2_putNumber_31 : decode cX2_putNumber 31 = .ok (.iconst 1, 1) := by decide +kernel
theorem dX2_putNumber_32 : decode cX2_putNumber 32 = .ok (.goto 4, 3) := by decide +kernel
theorem dX2_putNumber_35 : decode cX2_putNumber 35 = .ok (.iconst 0, 1) := by decide +kernel
theorem dX2_putNumber_36 : decode cX2_putNumber 36 = .ok (.istore_n 2, 1) := by decide +kernel
theorem dX2_putNumber_37 : decode cX2_putNumber 37 = .ok (.iload_n 2, 1) := by decide +kernel
theorem dX2_putNumber_38 : decode cX2_putNumber 38 = .ok (.ifCond .eq 12, 3) := by decide +kernel
theorem dX2_putNumber_41 : decode cX2_putNumber 41 = .ok (.aload_n 0, 1) := by decide +kernel
theorem dX2_putNumber_42 : decode cX2_putNumber 42 = .ok (.bipush 48, 2) := by decide +kernel
theorem dX2_putNumber_44 : decode cX2_putNumber 44 = .ok (.iload 4, 2) := by decide +kernel
theorem dX2_putNumber_46 : decode cX2_putNumber 46 = .ok (.iadd, 1) := by decide +kernel
theorem dX2_putNumber_47 : decode cX2_putNumber 47 = .ok (.invokevirtual 45, 3) := by decide +kernel
theorem dX2_putNumber_50 : decode cX2_putNumber 50 = .ok (.iload_n 3, 1) := by decide +kernel
theorem dX2_putNumber_51 : decode cX2_putNumber 51 = .ok (.bipush 10, 2) := by decide +kernel
theorem dX2_putNumber_53 : decode cX2_putNumber 53 = .ok (.idiv, 1) := by decide +kernel
theorem dX2_putNumber_54 : decode cX2_putNumber 54 = .ok (.istore_n 3, 1) := by decide +kernel
theorem dX2_putNumber_55 : decode cX2_putNumber 55 = .ok (.goto (-50), 3) := by decide +kernel
theorem dX2_putNumber_58 : decode cX2_putNumber 58 = .ok (.return_, 1) := by decide +kernel
theorem dX2_put_0 : decode cX2_put 0 = .ok (.aload_n 0, 1) := by decide +kernel
theorem dX2_put_1 : decode cX2_put 1 = .ok (.getfield 15, 3) := by decide +kernel
theorem dX2_put_4 : decode cX2_put 4 = .ok (.aload_n 0, 1) := by decide +kernel
theorem dX2_put_5 : decode cX2_put 5 = .ok (.getfield 9, 3) := by decide +kernel
theorem dX2_put_8 : decode cX2_put 8 = .ok (.arraylength, 1) := by decide +kernel
theorem dX2_put_9 : decode cX2_put 9 = .ok (.if_icmp .ge 13, 3) := by decide +kernel
theorem dX2_put_12 : decode cX2_put 12 = .ok (.aload_n 0, 1) := by decide +kernel
theorem dX2_put_13 : decode cX2_put 13 = .ok (.getfield 9, 3) := by decide +kernel
theorem dX2_put_16 : decode cX2_put 16 = .ok (.aload_n 0, 1) := by decide +kernel
theorem dX2_put_17 : decode cX2_put 17 = .ok (.getfield 15, 3) := by decide +kernel
theorem dX2_put_20 : decode cX2_put 20 = .ok (.iload_n 1, 1) := by decide +kernel
theorem dX2_put_21 : decode cX2_put 21 = .ok (.iastore, 1) := by decide +kernel
theorem dX2_put_22 : decode cX2_put 22 = .ok (.aload_n 0, 1) := by decide +kernel
theorem dX2_put_23 : decode cX2_put 23 = .ok (.dup, 1) := by decide +kernel
theorem dX2_put_24 : decode cX2_put 24 = .ok (.getfield 15, 3) := by decide +kernel
theorem dX2_put_27 : decode cX2_put 27 = .ok (.iconst 1, 1) := by decide +kernel
theorem dX2_put_28 : decode cX2_put 28 = .ok (.iadd, 1) := by decide +kernel
theorem dX2_put_29 : decode cX2_put 29 = .ok (.putfield 15, 3) := by decide +kernel
theorem dX2_put_32 : decode cX2_put 32 = .ok (.aload_n 0, 1) := by decide +kernel
theorem dX2_put_33 : decode cX2_put 33 = .ok (.iload_n 1, 1) := by decide +kernel
theorem dX2_put_34 : decode cX2_put 34 = .ok (.putfield 19, 3) := by decide +kernel
theorem dX2_put_37 : decode cX2_put 37 = .ok (.return_, 1) := by decide +kernel
theorem dX3_init_0 : decode cX3_init 0 = .ok (.aload_n 0, 1) := by decide +kernel
theorem dX3_init_1 : decode cX3_init 1 = .ok (.invokespecial 3, 3) := by decide +kernel
theorem dX3_init_4 : decode cX3_init 4 = .ok (.aload_n 0, 1) := by decide +kernel
theorem dX3_init_5 : decode cX3_init 5 = .ok (.new 9, 3) := by decide +kernel
theorem dX3_init_8 : decode cX3_init 8 = .ok (.dup, 1) := by decide +kernel
theorem dX3_init_9 : decode cX3_init 9 = .ok (.bipush 41, 2) := by decide +kernel
theorem dX3_init_11 : decode cX3_init 11 = .ok (.invokespecial 11, 3) := by decide +kernel
theorem dX3_init_14 : decode cX3_init 14 = .ok (.putfield 14, 3) := by decide +kernel
theorem dX3_init_17 : decode cX3_init 17 = .ok (.aload_n 0, 1) := by decide +kernel
theorem dX3_init_18 : decode cX3_init 18 = .ok (.new 9, 3) := by decide +kernel
theorem dX3_init_21 : decode cX3_init 21 = .ok (.dup, 1) := by decide +kernel
theorem dX3_init_22 : decode cX3_init 22 = .ok (.bipush 49, 2) := by decide +kernel
theorem dX3_init_24 : decode cX3_init 24 = .ok (.invokespecial 11, 3) := by decide +kernel
theorem dX3_init_27 : decode cX3_init 27 = .ok (.putfield 20, 3) := by decide +kernel
theorem dX3_init_30 : decode cX3_init 30 = .ok (.aload_n 0, 1) := by decide +kernel
theorem dX3_init_31 : decode cX3_init 31 = .ok (.bipush 8, 2) := by decide +kernel
theorem dX3_init_33 : decode cX3_init 33 = .ok (.newarray .int, 2) := by decide +kernel
theorem dX3_init_35 : decode cX3_init 35 = .ok (.putfield 23, 3) := by decide +kernel
theorem dX3_init_38 : decode cX3_init 38 = .ok (.aload_n 0, 1) := by decide +kernel
theorem dX3_init_39 : decode cX3_init 39 = .ok (.iconst 0, 1) := by decide +kernel
theorem dX3_init_40 : decode cX3_init 40 = .ok (.putfield 27, 3) := by decide +kernel
theorem dX3_init_43 : decode cX3_init 43 = .ok (.return_, 1) := by decide +kernel
theorem dX3_gaps_0 : decode cX3_gaps 0 = .ok (.aload_n 0, 1) := by decide +kernel
theorem dX3_gaps_1 : decode cX3_gaps 1 = .ok (.getfield 14, 3) := by decide +kernel
theorem dX3_gaps_4 : decode cX3_gaps 4 = .ok (.areturn, 1) := by decide +kernel
theorem dX3_layings_0 : decode cX3_layings 0 = .ok (.aload_n 0, 1) := by decide +kernel
theorem dX3_layings_1 : decode cX3_layings 1 = .ok (.getfield 20, 3) := by decide +kernel
theorem dX3_layings_4 : decode cX3_layings 4 = .ok (.areturn, 1) := by decide +kernel
theorem dX3_remaining_0 : decode cX3_remaining 0 = .ok (.aload_n 0, 1) := by decide +kernel
theorem dX3_remaining_1 : decode cX3_remaining 1 = .ok (.getfield 27, 3) := by decide +kernel
theorem dX3_remaining_4 : decode cX3_remaining 4 = .ok (.ireturn, 1) := by decide +kernel
theorem dX3_findGaps_0 : decode cX3_findGaps 0 = .ok (.aload_n 1, 1) := by decide +kernel
theorem dX3_findGaps_1 : decode cX3_findGaps 1 = .ok (.invokevirtual 31, 3) := by decide +kernel
theorem dX3_findGaps_4 : decode cX3_findGaps 4 = .ok (.astore_n 3, 1) := by decide +kernel
theorem dX3_findGaps_5 : decode cX3_findGaps 5 = .ok (.aload_n 1, 1) := by decide +kernel
theorem dX3_findGaps_6 : decode cX3_findGaps 6 = .ok (.iload_n 2, 1) := by decide +kernel
theorem dX3_findGaps_7 : decode cX3_findGaps 7 = .ok (.invokevirtual 37, 3) := by decide +kernel
theorem dX3_findGaps_10 : decode cX3_findGaps 10 = .ok (.istore 4, 2) := by decide +kernel
theorem dX3_findGaps_12 : decode cX3_findGaps 12 = .ok (.aload_n 1, 1) := by decide +kernel
theorem dX3_findGaps_13 : decode cX3_findGaps 13 = .ok (.iload_n 2, 1) := by decide +kernel
theorem dX3_findGaps_14 : decode cX3_findGaps 14 = .ok (.invokevirtual 41, 3) := by decide +kernel
theorem dX3_findGaps_17 : decode cX3_findGaps 17 = .ok (.istore 5, 2) := by decide +kernel
theorem dX3_findGaps_19 : decode cX3_findGaps 19 = .ok (.aload_n 0, 1) := by decide +kernel
theorem dX3_findGaps_20 : decode cX3_findGaps 20 = .ok (.getfield 14, 3) := by decide +kernel
theorem dX3_findGaps_23 : decode cX3_findGaps 23 = .ok (.iconst 0, 1) := by decide +kernel
theorem dX3_findGaps_24 : decode cX3_findGaps 24 = .ok (.invokevirtual 44, 3) := by decide +kernel
theorem dX3_findGaps_27 : decode cX3_findGaps 27 = .ok (.iconst 0, 1) := by decide +kernel
theorem dX3_findGaps_28 : decode cX3_findGaps 28 = .ok (.istore 6, 2) := by decide +kernel
theorem dX3_findGaps_30 : decode cX3_findGaps 30 = .ok (.iload 6, 2) := by decide +kernel
theorem dX3_findGaps_32 : decode cX3_findGaps 32 = .ok (.aload_n 3, 1) := by decide +kernel
theorem dX3_findGaps_33 : decode cX3_findGaps 33 = .ok (.invokevirtual 47, 3) := by decide +kernel
theorem dX3_findGaps_36 : decode cX3_findGaps 36 = .ok (.if_icmp .ge 62, 3) := by decide +kernel
theorem dX3_findGaps_39 : decode cX3_findGaps 39 = .ok (.aload_n 3, 1) := by decide +kernel
theorem dX3_findGaps_40 : decode cX3_findGaps 40 = .ok (.iload 6, 2) := by decide +kernel
theorem dX3_findGaps_42 : decode cX3_findGaps 42 = .ok (.iload 5, 2) := by decide +kernel
theorem dX3_findGaps_44 : decode cX3_findGaps 44 = .ok (.iload 4, 2) := by decide +kernel
theorem dX3_findGaps_46 : decode cX3_findGaps 46 = .ok (.invokevirtual 51, 3) := by decide +kernel
theorem dX3_findGaps_49 : decode cX3_findGaps 49 = .ok (.ifCond .eq 43, 3) := by decide +kernel
theorem dX3_findGaps_52 : decode cX3_findGaps 52 = .ok (.aload_n 3, 1) := by decide +kernel
theorem dX3_findGaps_53 : decode cX3_findGaps 53 = .ok (.iload 6, 2) := by decide +kernel
theorem dX3_findGaps_55 : decode cX3_findGaps 55 = .ok (.invokevirtual 55, 3) := by decide +kernel
theorem dX3_findGaps_58 : decode cX3_findGaps 58 = .ok (.iload 5, 2) := by decide +kernel
theorem dX3_findGaps_60 : decode cX3_findGaps 60 = .ok (.if_icmp .le 22, 3) := by decide +kernel
theorem dX3_findGaps_63 : decode cX3_findGaps 63 = .ok (.aload_n 0, 1) := by decide +kernel
theorem dX3_findGaps_64 : decode cX3_findGaps 64 = .ok (.getfield 14, 3) := by decide +kernel
theorem dX3_findGaps_67 : decode cX3_findGaps 67 = .ok (.iconst (-1), 1) := by decide +kernel
theorem dX3_findGaps_68 : decode cX3_findGaps 68 = .ok (.iload 5, 2) := by decide +kernel
theorem dX3_findGaps_70 : decode cX3_findGaps 70 = .ok (.aload_n 3, 1) := by decide +kernel
theorem dX3_findGaps_71 : decode cX3_findGaps 71 = .ok (.iload 6, 2) := by decide +kernel
theorem dX3_findGaps_73 : decode cX3_findGaps 73 = .ok (.invokevirtual 55, 3) := by decide +kernel
theorem dX3_findGaps_76 : decode cX3_findGaps 76 = .ok (.iconst 1, 1) := by decide +kernel
theorem dX3_findGaps_77 : decode cX3_findGaps 77 = .ok (.isub, 1) := by decide +kernel
theorem dX3_findGaps_78 : decode cX3_findGaps 78 = .ok (.invokevirtual 58, 3) := by decide +kernel
theorem dX3_findGaps_81 : decode cX3_findGaps 81 = .ok (.pop, 1) := by decide +kernel
theorem dX3_findGaps_82 : decode cX3_findGaps 82 = .ok (.aload_n 3, 1) := by decide +kernel
theorem dX3_findGaps_83 : decode cX3_findGaps 83 = .ok (.iload 6, 2) := by decide +kernel
theorem dX3_findGaps_85 : decode cX3_findGaps 85 = .ok (.invokevirtual 61, 3) := by decide +kernel
theorem dX3_findGaps_88 : decode cX3_findGaps 88 = .ok (.iconst 1, 1) := by decide +kernel
theorem dX3_findGaps_89 : decode cX3_findGaps 89 = .ok (.iadd, 1) := by decide +kernel
theorem dX3_findGaps_90 : decode cX3_findGaps 90 = .ok (.istore 5, 2) := by decide +kernel
theorem dX3_findGaps_92 : decode cX3_findGaps 92 = .ok (.iinc 6 1, 3) := by decide +kernel
theorem dX3_findGaps_95 : decode cX3_findGaps 95 = .ok (.goto (-65), 3) := by decide +kernel
theorem dX3_findGaps_98 : decode cX3_findGaps 98 = .ok (.iload 5, 2) := by decide +kernel
theorem dX3_findGaps_100 : decode cX3_findGaps 100 = .ok (.iload 4, 2) := by decide +kernel
theorem dX3_findGaps_102 : decode cX3_findGaps 102 = .ok (.if_icmp .gt 16, 3) := by decide +kernel
theorem dX3_findGaps_105 : decode cX3_findGaps 105 = .ok (.aload_n 0, 1) := by decide +kernel
theorem dX3_findGaps_106 : decode cX3_findGaps 106 = .ok (.getfield 14, 3) := by decide +kernel
theorem dX3_findGaps_109 : decode cX3_findGaps 109 = .ok (.iconst (-1), 1) := by decide +kernel
theorem dX3_findGaps_110 : decode cX3_findGaps 110 = .ok (.iload 5, 2) := by decide +kernel
theorem dX3_findGaps_112 : decode cX3_findGaps 112 = .ok (.iload 4, 2) := by decide +kernel
theorem dX3_findGaps_114 : decode cX3_findGaps 114 = .ok (.invokevirtual 58, 3) := by decide +kernel
theorem dX3_findGaps_117 : decode cX3_findGaps 117 = .ok (.pop, 1) := by decide +kernel
theorem dX3_findGaps_118 : decode cX3_findGaps 118 = .ok (.return_, 1) := by decide +kernel
theorem dX3_makePlan_0 : decode cX3_makePlan 0 = .ok (.aload_n 0, 1) := by decide +kernel
theorem dX3_makePlan_1 : decode cX3_makePlan 1 = .ok (.aload_n 1, 1) := by decide +kernel
theorem dX3_makePlan_2 : decode cX3_makePlan 2 = .ok (.iload_n 2, 1) := by decide +kernel
theorem dX3_makePlan_3 : decode cX3_makePlan 3 = .ok (.invokevirtual 64, 3) := by decide +kernel
theorem dX3_makePlan_6 : decode cX3_makePlan 6 = .ok (.iconst 0, 1) := by decide +kernel
theorem dX3_makePlan_7 : decode cX3_makePlan 7 = .ok (.istore_n 3, 1) := by decide +kernel
theorem dX3_makePlan_8 : decode cX3_makePlan 8 = .ok (.iload_n 3, 1) := by decide +kernel
theorem dX3_makePlan_9 : decode cX3_makePlan 9 = .ok (.bipush 8, 2) := by decide +kernel
theorem dX3_makePlan_11 : decode cX3_makePlan 11 = .ok (.if_icmp .ge 20, 3) := by decide +kernel
theorem dX3_makePlan_14 : decode cX3_makePlan 14 = .ok (.aload_n 0, 1) := by decide +kernel
theorem dX3_makePlan_15 : decode cX3_makePlan 15 = .ok (.getfield 23, 3) := by decide +kernel
theorem dX3_makePlan_18 : decode cX3_makePlan 18 = .ok (.iload_n 3, 1) := by decide +kernel
theorem dX3_makePlan_19 : decode cX3_makePlan 19 = .ok (.aload_n 1, 1) := by decide +kernel
theorem dX3_makePlan_20 : decode cX3_makePlan 20 = .ok (.iload_n 3, 1) := by decide +kernel
theorem dX3_makePlan_21 : decode cX3_makePlan 21 = .ok (.invokevirtual 68, 3) := by decide +kernel
theorem dX3_makePlan_24 : decode cX3_makePlan 24 = .ok (.iastore, 1) := by decide +kernel
theorem dX3_makePlan_25 : decode cX3_makePlan 25 = .ok (.iinc 3 1, 3) := by decide +kernel
theorem dX3_makePlan_28 : decode cX3_makePlan 28 = .ok (.goto (-20), 3) := by decide +kernel
theorem dX3_makePlan_31 : decode cX3_makePlan 31 = .ok (.aload_n 0, 1) := by decide +kernel
theorem dX3_makePlan_32 : decode cX3_makePlan 32 = .ok (.getfield 20, 3) := by decide +kernel
theorem dX3_makePlan_35 : decode cX3_makePlan 35 = .ok (.iconst 0, 1) := by decide +kernel
theorem dX3_makePlan_36 : decode cX3_makePlan 36 = .ok (.invokevirtual 44, 3) := by decide +kernel
theorem dX3_makePlan_39 : decode cX3_makePlan 39 = .ok (.aload_n 0, 1) := by decide +kernel
theorem dX3_makePlan_40 : decode cX3_makePlan 40 = .ok (.iconst 0, 1) := by decide +kernel
theorem dX3_makePlan_41 : decode cX3_makePlan 41 = .ok (.putfield 27, 3) := by decide +kernel
theorem dX3_makePlan_44 : decode cX3_makePlan 44 = .ok (.iconst 0, 1) := by decide +kernel
theorem dX3_makePlan_45 : decode cX3_makePlan 45 = .ok (.istore_n 3, 1) := by decide +kernel
theorem dX3_makePlan_46 : decode cX3_makePlan 46 = .ok (.iload_n 3, 1) := by decide +kernel
theorem dX3_makePlan_47 : decode cX3_makePlan 47 = .ok (.aload_n 0, 1) := by decide +kernel
theorem dX3_makePlan_48 : decode cX3_makePlan 48 = .ok (.getfield 14, 3) := by decide +kernel
theorem dX3_makePlan_51 : decode cX3_makePlan 51 = .ok (.invokevirtual 47, 3) := by decide +kernel
theorem dX3_makePlan_54 : decode cX3_makePlan 54 = .ok (.if_icmp .ge 29, 3) := by decide +kernel
theorem dX3_makePlan_57 : decode cX3_makePlan 57 = .ok (.aload_n 0, 1) := by decide +kernel
theorem dX3_makePlan_58 : decode cX3_makePlan 58 = .ok (.aload_n 0, 1) := by decide +kernel
theorem dX3_makePlan_59 : decode cX3_makePlan 59 = .ok (.getfield 14, 3) := by decide +kernel
theorem dX3_makePlan_62 : decode cX3_makePlan 62 = .ok (.iload_n 3, 1) := by decide +kernel
theorem dX3_makePlan_63 : decode cX3_makePlan 63 = .ok (.invokevirtual 55, 3) := by decide +kernel
theorem dX3_makePlan_66 : decode cX3_makePlan 66 = .ok (.aload_n 0, 1) := by decide +kernel
theorem dX3_makePlan_67 : decode cX3_makePlan 67 = .ok (.getfield 14, 3) := by decide +kernel
theorem dX3_makePlan_70 : decode cX3_makePlan 70 = .ok (.iload_n 3, 1) := by decide +kernel
theorem dX3_makePlan_71 : decode cX3_makePlan 71 = .ok (.invokevirtual 61, 3) := by decide +kernel
theorem dX3_makePlan_74 : decode cX3_makePlan 74 = .ok (.invokevirtual 71, 3) := by decide +kernel
theorem dX3_makePlan_77 : decode cX3_makePlan 77 = .ok (.iinc 3 1, 3) := by decide +kernel
theorem dX3_makePlan_80 : decode cX3_makePlan 80 = .ok (.goto (-34), 3) := by decide +kernel
theorem dX3_makePlan_83 : decode cX3_makePlan 83 = .ok (.return_, 1) := by decide +kernel
theorem dX3_place_0 : decode cX3_place 0 = .ok (.iload_n 1, 1) := by decide +kernel
theorem dX3_place_1 : decode cX3_place 1 = .ok (.istore_n 3, 1) := by decide +kernel
theorem dX3_place_2 : decode cX3_place 2 = .ok (.iconst 0, 1) := by decide +kernel
theorem dX3_place_3 : decode cX3_place 3 = .ok (.istore 4, 2) := by decide +kernel
theorem dX3_place_5 : decode cX3_place 5 = .ok (.iload 4, 2) := by decide +kernel
theorem dX3_place_7 : decode cX3_place 7 = .ok (.bipush 8, 2) := by decide +kernel
theorem dX3_place_9 : decode cX3_place 9 = .ok (.if_icmp .gt 87, 3) := by decide +kernel
theorem dX3_place_12 : decode cX3_place 12 = .ok (.iload_n 3, 1) := by decide +kernel
theorem dX3_place_13 : decode cX3_place 13 = .ok (.iload_n 2, 1) := by decide +kernel
theorem dX3_place_14 : decode cX3_place 14 = .ok (.if_icmp .gt 82, 3) := by decide +kernel
theorem dX3_place_17 : decode cX3_place 17 = .ok (.aload_n 0, 1) := by decide +kernel
theorem dX3_place_18 : decode cX3_place 18 = .ok (.iload_n 2, 1) := by decide +kernel
theorem dX3_place_19 : decode cX3_place 19 = .ok (.iload_n 3, 1) := by decide +kernel
theorem dX3_place_20 : decode cX3_place 20 = .ok (.isub, 1) := by decide +kernel
theorem dX3_place_21 : decode cX3_place 21 = .ok (.iconst 1, 1) := by decide +kernel
theorem dX3_place_22 : decode cX3_place 22 = .ok (.iadd, 1) := by decide +kernel
theorem dX3_place_23 : decode cX3_place 23 = .ok (.invokevirtual 75, 3) := by decide +kernel
theorem dX3_place_26 : decode cX3_place 26 = .ok (.istore 5, 2) := by decide +kernel
theorem dX3_place_28 : decode cX3_place 28 = .ok (.iload 5, 2) := by decide +kernel
theorem dX3_place_30 : decode cX3_place 30 = .ok (.invokestatic 78, 3) := by decide +kernel
theorem dX3_place_33 : decode cX3_place 33 = .ok (.ifCond .ne 6, 3) := by decide +kernel
theorem dX3_place_36 : decode cX3_place 36 = .ok (.goto 60, 3) := by decide +kernel
theorem dX3_place_39 : decode cX3_place 39 = .ok (.aload_n 0, 1) := by decide +kernel
theorem dX3_place_40 : decode cX3_place 40 = .ok (.getfield 23, 3) := by decide +kernel
theorem dX3_place_43 : decode cX3_place 43 = .ok (.iload 5, 2) := by decide +kernel
theorem dX3_place_45 : decode cX3_place 45 = .ok (.iaload, 1) := by decide +kernel
theorem dX3_place_46 : decode cX3_place 46 = .ok (.iload_n 2, 1) := by decide +kernel
theorem dX3_place_47 : decode cX3_place 47 = .ok (.iload_n 3, 1) := by decide +kernel
theorem dX3_place_48 : decode cX3_place 48 = .ok (.isub, 1) := by decide +kernel
theorem dX3_place_49 : decode cX3_place 49 = .ok (.iconst 1, 1) := by decide +kernel
theorem dX3_place_50 : decode cX3_place 50 = .ok (.iadd, 1) := by decide +kernel
theorem dX3_place_51 : decode cX3_place 51 = .ok (.invokestatic 82, 3) := by decide +kernel
theorem dX3_place_54 : decode cX3_place 54 = .ok (.istore 6, 2) := by decide +kernel
theorem dX3_place_56 : decode cX3_place 56 = .ok (.aload_n 0, 1) := by decide +kernel
theorem dX3_place_57 : decode cX3_place 57 = .ok (.getfield 20, 3) := by decide +kernel
theorem dX3_place_60 : decode cX3_place 60 = .ok (.iload 5, 2) := by decide +kernel
theorem dX3_place_62 : decode cX3_place 62 = .ok (.iload_n 3, 1) := by decide +kernel
theorem dX3_place_63 : decode cX3_place 63 = .ok (.iload_n 3, 1) := by decide +kernel
theorem dX3_place_64 : decode cX3_place 64 = .ok (.iload 6, 2) := by decide +kernel
theorem dX3_place_66 : decode cX3_place 66 = .ok (.iadd, 1) := by decide +kernel
theorem dX3_place_67 : decode cX3_place 67 = .ok (.iconst 1, 1) := by decide +kernel
theorem dX3_place_68 : decode cX3_place 68 = .ok (.isub, 1) := by decide +kernel
theorem dX3_place_69 : decode cX3_place 69 = .ok (.invokevirtual 58, 3) := by decide +kernel
theorem dX3_place_72 : decode cX3_place 72 = .ok (.pop, 1) := by decide +kernel
theorem dX3_place_73 : decode cX3_place 73 = .ok (.aload_n 0, 1) := by decide +kernel
theorem dX3_place_74 : decode cX3_place 74 = .ok (.getfield 23, 3) := by decide +kernel
theorem dX3_place_77 : decode cX3_place 77 = .ok (.iload 5, 2) := by decide +kernel
theorem dX3_place_79 : decode cX3_place 79 = .ok (.dup2, 1) := by decide +kernel
theorem dX3_place_80 : decode cX3_place 80 = .ok (.iaload, 1) := by decide +kernel
theorem dX3_place_81 : decode cX3_place 81 = .ok (.iload 6, 2) := by decide +kernel
theorem dX3_place_83 : decode cX3_place 83 = .ok (.isub, 1) := by decide +kernel
theorem dX3_place_84 : decode cX3_place 84 = .ok (.iastore, 1) := by decide +kernel
theorem dX3_place_85 : decode cX3_place 85 = .ok (.iload_n 3, 1) := by decide +kernel
theorem dX3_place_86 : decode cX3_place 86 = .ok (.iload 6, 2) := by decide +kernel
theorem dX3_place_88 : decode cX3_place 88 = .ok (.iadd, 1) := by decide +kernel
theorem dX3_place_89 : decode cX3_place 89 = .ok (.istore_n 3, 1) := by decide +kernel
theorem dX3_place_90 : decode cX3_place 90 = .ok (.iinc 4 1, 3) := by decide +kernel
theorem dX3_place_93 : decode cX3_place 93 = .ok (.goto (-88), 3) := by decide +kernel
theorem dX3_place_96 : decode cX3_place 96 = .ok (.aload_n 0, 1) := by decide +kernel
theorem dX3_place_97 : decode cX3_place 97 = .ok (.dup, 1) := by decide +kernel
theorem dX3_place_98 : decode cX3_place 98 = .ok (.getfield 27, 3) := by decide +kernel
theorem dX3_place_101 : decode cX3_place 101 = .ok (.iload_n 2, 1) := by decide +kernel
theorem dX3_place_102 : decode cX3_place 102 = .ok (.iload_n 3, 1) := by decide +kernel
theorem dX3_place_103 : decode cX3_place 103 = .ok (.isub, 1) := by decide +kernel
theorem dX3_place_104 : decode cX3_place 104 = .ok (.iconst 1, 1) := by decide +kernel
theorem dX3_place_105 : decode cX3_place 105 = .ok (.iadd, 1) := by decide +kernel
theorem dX3_place_106 : decode cX3_place 106 = .ok (.iadd, 1) := by decide +kernel
theorem dX3_place_107 : decode cX3_place 107 = .ok (.putfield 27, 3) := by decide +kernel
theorem dX3_place_110 : decode cX3_place 110 = .ok (.return_, 1) := by decide +kernel
theorem dX3_chooseBox_0 : decode cX3_chooseBox 0 = .ok (.aload_n 0, 1) := by decide +kernel
theorem dX3_chooseBox_1 : decode cX3_chooseBox 1 = .ok (.iload_n 1, 1) := by decide +kernel
theorem dX3_chooseBox_2 : decode cX3_chooseBox 2 = .ok (.invokevirtual 88, 3) := by decide +kernel
theorem dX3_chooseBox_5 : decode cX3_chooseBox 5 = .ok (.istore_n 2, 1) := by decide +kernel
theorem dX3_chooseBox_6 : decode cX3_chooseBox 6 = .ok (.iload_n 2, 1) := by decide +kernel
theorem dX3_chooseBox_7 : decode cX3_chooseBox 7 = .ok (.iconst (-1), 1) := by decide +kernel
theorem dX3_chooseBox_8 : decode cX3_chooseBox 8 = .ok (.if_icmp .eq 7, 3) := by decide +kernel
theorem dX3_chooseBox_11 : decode cX3_chooseBox 11 = .ok (.iload_n 2, 1) := by decide +kernel
theorem dX3_chooseBox_12 : decode cX3_chooseBox 12 = .ok (.goto 7, 3) := by decide +kernel
theorem dX3_chooseBox_15 : decode cX3_chooseBox 15 = .ok (.aload_n 0, 1) := by decide +kernel
theorem dX3_chooseBox_16 : decode cX3_chooseBox 16 = .ok (.invokevirtual 91, 3) := by decide +kernel
theorem dX3_chooseBox_19 : decode cX3_chooseBox 19 = .ok (.ireturn, 1) := by decide +kernel
theorem dX3_tightestFor_0 : decode cX3_tightestFor 0 = .ok (.iconst (-1), 1) := by decide +kernel
theorem dX3_tightestFor_1 : decode cX3_tightestFor 1 = .ok (.istore_n 2, 1) := by decide +kernel
theorem dX3_tightestFor_2 : decode cX3_tightestFor 2 = .ok (.iconst 0, 1) := by decide +kernel
theorem dX3_tightestFor_3 : decode cX3_tightestFor 3 = .ok (.istore_n 3, 1) := by decide +kernel
theorem dX3_tightestFor_4 : decode cX3_tightestFor 4 = .ok (.iload_n 3, 1) := by decide +kernel
theorem dX3_tightestFor_5 : decode cX3_tightestFor 5 = .ok (.bipush 8, 2) := by decide +kernel
theorem dX3_tightestFor_7 : decode cX3_tightestFor 7 = .ok (.if_icmp .ge 41, 3) := by decide +kernel
theorem dX3_tightestFor_10 : decode cX3_tightestFor 10 = .ok (.aload_n 0, 1) := by decide +kernel
theorem dX3_tightestFor_11 : decode cX3_tightestFor 11 = .ok (.getfield 23, 3) := by decide +kernel
theorem dX3_tightestFor_14 : decode cX3_tightestFor 14 = .ok (.iload_n 3, 1) := by decide +kernel
theorem dX3_tightestFor_15 : decode cX3_tightestFor 15 = .ok (.iaload, 1) := by decide +kernel
theorem dX3_tightestFor_16 : decode cX3_tightestFor 16 = .ok (.iload_n 1, 1) := by decide +kernel
theorem dX3_tightestFor_17 : decode cX3_tightestFor 17 = .ok (.if_icmp .lt 25, 3) := by decide +kernel
theorem dX3_tightestFor_20 : decode cX3_tightestFor 20 = .ok (.iload_n 2, 1) := by decide +kernel
theorem dX3_tightestFor_21 : decode cX3_tightestFor 21 = .ok (.iconst (-1), 1) := by decide +kernel
theorem dX3_tightestFor_22 : decode cX3_tightestFor 22 = .ok (.if_icmp .eq 18, 3) := by decide +kernel
theorem dX3_tightestFor_25 : decode cX3_tightestFor 25 = .ok (.aload_n 0, 1) := by decide +kernel
theorem dX3_tightestFor_26 : decode cX3_tightestFor 26 = .ok (.getfield 23, 3) := by decide +kernel
theorem dX3_tightestFor_29 : decode cX3_tightestFor 29 = .ok (.iload_n 3, 1) := by decide +kernel
theorem dX3_tightestFor_30 : decode cX3_tightestFor 30 = .ok (.iaload, 1) := by decide +kernel
theorem dX3_tightestFor_31 : decode cX3_tightestFor 31 = .ok (.aload_n 0, 1) := by decide +kernel
theorem dX3_tightestFor_32 : decode cX3_tightestFor 32 = .ok (.getfield 23, 3) := by decide +kernel
theorem dX3_tightestFor_35 : decode cX3_tightestFor 35 = .ok (.iload_n 2, 1) := by decide +kernel
theorem dX3_tightestFor_36 : decode cX3_tightestFor 36 = .ok (.iaload, 1) := by decide +kernel
theorem dX3_tightestFor_37 : decode cX3_tightestFor 37 = .ok (.if_icmp .ge 5, 3) := by decide +kernel
theorem dX3_tightestFor_40 : decode cX3_tightestFor 40 = .ok (.iload_n 3, 1) := by decide +kernel
theorem dX3_tightestFor_41 : decode cX3_tightestFor 41 = .ok (.istore_n 2, 1) := by decide +kernel
theorem dX3_tightestFor_42 : decode cX3_tightestFor 42 = .ok (.iinc 3 1, 3) := by decide +kernel
theorem dX3_tightestFor_45 : decode cX3_tightestFor 45 = .ok (.goto (-41), 3) := by decide +kernel
theorem dX3_tightestFor_48 : decode cX3_tightestFor 48 = .ok (.iload_n 2, 1) := by decide +kernel
theorem dX3_tightestFor_49 : decode cX3_tightestFor 49 = .ok (.ireturn, 1) := by decide +kernel
theorem dX3_widest_0 : decode cX3_widest 0 = .ok (.iconst (-1), 1) := by decide +kernel
theorem dX3_widest_1 : decode cX3_widest 1 = .ok (.istore_n 1, 1) := by decide +kernel
theorem dX3_widest_2 : decode cX3_widest 2 = .ok (.iconst 0, 1) := by decide +kernel
theorem dX3_widest_3 : decode cX3_widest 3 = .ok (.istore_n 2, 1) := by decide +kernel
theorem dX3_widest_4 : decode cX3_widest 4 = .ok (.iload_n 2, 1) := by decide +kernel
theorem dX3_widest_5 : decode cX3_widest 5 = .ok (.bipush 8, 2) := by decide +kernel
theorem dX3_widest_7 : decode cX3_widest 7 = .ok (.if_icmp .ge 40, 3) := by decide +kernel
theorem dX3_widest_10 : decode cX3_widest 10 = .ok (.aload_n 0, 1) := by decide +kernel
theorem dX3_widest_11 : decode cX3_widest 11 = .ok (.getfield 23, 3) := by decide +kernel
theorem dX3_widest_14 : decode cX3_widest 14 = .ok (.iload_n 2, 1) := by decide +kernel
theorem dX3_widest_15 : decode cX3_widest 15 = .ok (.iaload, 1) := by decide +kernel
theorem dX3_widest_16 : decode cX3_widest 16 = .ok (.ifCond .le 25, 3) := by decide +kernel
theorem dX3_widest_19 : decode cX3_widest 19 = .ok (.iload_n 1, 1) := by decide +kernel
theorem dX3_widest_20 : decode cX3_widest 20 = .ok (.iconst (-1), 1) := by decide +kernel
theorem dX3_widest_21 : decode cX3_widest 21 = .ok (.if_icmp .eq 18, 3) := by decide +kernel
theorem dX3_widest_24 : decode cX3_widest 24 = .ok (.aload_n 0, 1) := by decide +kernel
theorem dX3_widest_25 : decode cX3_widest 25 = .ok (.getfield 23, 3) := by decide +kernel
theorem dX3_widest_28 : decode cX3_widest 28 = .ok (.iload_n 2, 1) := by decide +kernel
theorem dX3_widest_29 : decode cX3_widest 29 = .ok (.iaload, 1) := by decide +kernel
theorem dX3_widest_30 : decode cX3_widest 30 = .ok (.aload_n 0, 1) := by decide +kernel
theorem dX3_widest_31 : decode cX3_widest 31 = .ok (.getfield 23, 3) := by decide +kernel
theorem dX3_widest_34 : decode cX3_widest 34 = .ok (.iload_n 1, 1) := by decide +kernel
theorem dX3_widest_35 : decode cX3_widest 35 = .ok (.iaload, 1) := by decide +kernel
theorem dX3_widest_36 : decode cX3_widest 36 = .ok (.if_icmp .le 5, 3) := by decide +kernel
theorem dX3_widest_39 : decode cX3_widest 39 = .ok (.iload_n 2, 1) := by decide +kernel
theorem dX3_widest_40 : decode cX3_widest 40 = .ok (.istore_n 1, 1) := by decide +kernel
theorem dX3_widest_41 : decode cX3_widest 41 = .ok (.iinc 2 1, 3) := by decide +kernel
theorem dX3_widest_44 : decode cX3_widest 44 = .ok (.goto (-40), 3) := by decide +kernel
theorem dX3_widest_47 : decode cX3_widest 47 = .ok (.iload_n 1, 1) := by decide +kernel
theorem dX3_widest_48 : decode cX3_widest 48 = .ok (.ireturn, 1) := by decide +kernel
theorem dX4_init_0 : decode cX4_init 0 = .ok (.aload_n 0, 1) := by decide +kernel
theorem dX4_init_1 : decode cX4_init 1 = .ok (.invokespecial 3, 3) := by decide +kernel
theorem dX4_init_4 : decode cX4_init 4 = .ok (.iload_n 1, 1) := by decide +kernel
theorem dX4_init_5 : decode cX4_init 5 = .ok (.iconst 0, 1) := by decide +kernel
theorem dX4_init_6 : decode cX4_init 6 = .ok (.invokestatic 9, 3) := by decide +kernel
theorem dX4_init_9 : decode cX4_init 9 = .ok (.istore_n 2, 1) := by decide +kernel
theorem dX4_init_10 : decode cX4_init 10 = .ok (.aload_n 0, 1) := by decide +kernel
theorem dX4_init_11 : decode cX4_init 11 = .ok (.iload_n 2, 1) := by decide +kernel
theorem dX4_init_12 : decode cX4_init 12 = .ok (.newarray .int, 2) := by decide +kernel
theorem dX4_init_14 : decode cX4_init 14 = .ok (.putfield 15, 3) := by decide +kernel
theorem dX4_init_17 : decode cX4_init 17 = .ok (.aload_n 0, 1) := by decide +kernel
theorem dX4_init_18 : decode cX4_init 18 = .ok (.iload_n 2, 1) := by decide +kernel
theorem dX4_init_19 : decode cX4_init 19 = .ok (.newarray .int, 2) := by decide +kernel
theorem dX4_init_21 : decode cX4_init 21 = .ok (.putfield 21, 3) := by decide +kernel
theorem dX4_init_24 : decode cX4_init 24 = .ok (.aload_n 0, 1) := by decide +kernel
theorem dX4_init_25 : decode cX4_init 25 = .ok (.iload_n 2, 1) := by decide +kernel
theorem dX4_init_26 : decode cX4_init 26 = .ok (.newarray .int, 2) := by decide +kernel
theorem dX4_init_28 : decode cX4_init 28 = .ok (.putfield 24, 3) := by decide +kernel
theorem dX4_init_31 : decode cX4_init 31 = .ok (.aload_n 0, 1) := by decide +kernel
theorem dX4_init_32 : decode cX4_init 32 = .ok (.iconst 0, 1) := by decide +kernel
theorem dX4_init_33 : decode cX4_init 33 = .ok (.putfield 27, 3) := by decide +kernel
theorem dX4_init_36 : decode cX4_init 36 = .ok (.return_, 1) := by decide +kernel
theorem dX4_size_0 : decode cX4_size 0 = .ok (.aload_n 0, 1) := by decide +kernel
theorem dX4_size_1 : decode cX4_size 1 = .ok (.getfield 27, 3) := by decide +kernel
theorem dX4_size_4 : decode cX4_size 4 = .ok (.ireturn, 1) := by decide +kernel
theorem dX4_has_0 : decode cX4_has 0 = .ok (.iload_n 1, 1) := by decide +kernel
theorem dX4_has_1 : decode cX4_has 1 = .ok (.ifCond .lt 15, 3) := by decide +kernel
theorem dX4_has_4 : decode cX4_has 4 = .ok (.iload_n 1, 1) := by decide +kernel
theorem dX4_has_5 : decode cX4_has 5 = .ok (.aload_n 0, 1) := by decide +kernel
theorem dX4_has_6 : decode cX4_has 6 = .ok (.getfield 27, 3) := by decide +kernel
theorem dX4_has_9 : decode cX4_has 9 = .ok (.if_icmp .ge 7, 3) := by decide +kernel
theorem dX4_has_12 : decode cX4_has 12 = .ok (.iconst 1, 1) := by decide +kernel
theorem dX4_has_13 : decode cX4_has 13 = .ok (.goto 4, 3) := by decide +kernel
theorem dX4_has_16 : decode cX4_has 16 = .ok (.iconst 0, 1) := by decide +kernel
theorem dX4_has_17 : decode cX4_has 17 = .ok (.ireturn, 1) := by decide +kernel
theorem dX4_markOf_0 : decode cX4_markOf 0 = .ok (.aload_n 0, 1) := by decide +kernel
theorem dX4_markOf_1 : decode cX4_markOf 1 = .ok (.iload_n 1, 1) := by decide +kernel
theorem dX4_markOf_2 : decode cX4_markOf 2 = .ok (.invokevirtual 31, 3) := by decide +kernel
theorem dX4_markOf_5 : decode cX4_markOf 5 = .ok (.ifCond .eq 12, 3) := by decide +kernel
theorem dX4_markOf_8 : decode cX4_markOf 8 = .ok (.aload_n 0, 1) := by decide +kernel
theorem dX4_markOf_9 : decode cX4_markOf 9 = .ok (.getfield 15, 3) := by decide +kernel
theorem dX4_markOf_12 : decode cX4_markOf 12 = .ok (.iload_n 1, 1) := by decide +kernel
theorem dX4_markOf_13 : decode cX4_markOf 13 = .ok (.iaload, 1) := by decide +kernel
theorem dX4_markOf_14 : decode cX4_markOf 14 = .ok (.goto 4, 3) := by decide +kernel
theorem dX4_markOf_17 : decode cX4_markOf 17 = .ok (.iconst (-1), 1) := by decide +kernel
theorem dX4_markOf_18 : decode cX4_markOf 18 = .ok (.ireturn, 1) := by decide +kernel
theorem dX4_firstOf_0 : decode cX4_firstOf 0 = .ok (.aload_n 0, 1) := by decide +kernel
theorem dX4_firstOf_1 : decode cX4_firstOf 1 = .ok (.iload_n 1, 1) := by decide +kernel
theorem dX4_firstOf_2 : decode cX4_firstOf 2 = .ok (.invokevirtual 31, 3) := by decide +kernel
theorem dX4_firstOf_5 : decode cX4_firstOf 5 = .ok (.ifCond .eq 12, 3) := by decide +kernel
theorem dX4_firstOf_8 : decode cX4_firstOf 8 = .ok (.aload_n 0, 1) := by decide +kernel
theorem dX4_firstOf_9 : decode cX4_firstOf 9 = .ok (.getfield 21, 3) := by decide +kernel
theorem dX4_firstOf_12 : decode cX4_firstOf 12 = .ok (.iload_n 1, 1) := by decide +kernel
theorem dX4_firstOf_13 : decode cX4_firstOf 13 = .ok (.iaload, 1) := by decide +kernel
theorem dX4_firstOf_14 : decode cX4_firstOf 14 = .ok (.goto 4, 3) := by decide +kernel
theorem dX4_firstOf_17 : decode cX4_firstOf 17 = .ok (.iconst (-1), 1) := by decide +kernel
theorem dX4_firstOf_18 : decode cX4_firstOf 18 = .ok (.ireturn, 1) := by decide +kernel
theorem dX4_lastOf_0 : decode cX4_lastOf 0 = .ok (.aload_n 0, 1) := by decide +kernel
theorem dX4_lastOf_1 : decode cX4_lastOf 1 = .ok (.iload_n 1, 1) := by decide +kernel
theorem dX4_lastOf_2 : decode cX4_lastOf 2 = .ok (.invokevirtual 31, 3) := by decide +kernel
theorem dX4_lastOf_5 : decode cX4_lastOf 5 = .ok (.ifCond .eq 12, 3) := by decide +kernel
theorem dX4_lastOf_8 : decode cX4_lastOf 8 = .ok (.aload_n 0, 1) := by decide +kernel
theorem dX4_lastOf_9 : decode cX4_lastOf 9 = .ok (.getfield 24, 3) := by decide +kernel
theorem dX4_lastOf_12 : decode cX4_lastOf 12 = .ok (.iload_n 1, 1) := by decide +kernel
theorem dX4_lastOf_13 : decode cX4_lastOf 13 = .ok (.iaload, 1) := by decide +kernel
theorem dX4_lastOf_14 : decode cX4_lastOf 14 = .ok (.goto 4, 3) := by decide +kernel
theorem dX4_lastOf_17 : decode cX4_lastOf 17 = .ok (.iconst (-1), 1) := by decide +kernel
theorem dX4_lastOf_18 : decode cX4_lastOf 18 = .ok (.ireturn, 1) := by decide +kernel
theorem dX4_add_0 : decode cX4_add 0 = .ok (.aload_n 0, 1) := by decide +kernel
theorem dX4_add_1 : decode cX4_add 1 = .ok (.getfield 27, 3) := by decide +kernel
theorem dX4_add_4 : decode cX4_add 4 = .ok (.aload_n 0, 1) := by decide +kernel
theorem dX4_add_5 : decode cX4_add 5 = .ok (.getfield 21, 3) := by decide +kernel
theorem dX4_add_8 : decode cX4_add 8 = .ok (.arraylength, 1) := by decide +kernel
theorem dX4_add_9 : decode cX4_add 9 = .ok (.if_icmp .lt 5, 3) := by decide +kernel
theorem dX4_add_12 : decode cX4_add 12 = .ok (.iconst 0, 1) := by decide +kernel
theorem dX4_add_13 : decode cX4_add 13 = .ok (.ireturn, 1) := by decide +kernel
theorem dX4_add_14 : decode cX4_add 14 = .ok (.aload_n 0, 1) := by decide +kernel
theorem dX4_add_15 : decode cX4_add 15 = .ok (.getfield 15, 3) := by decide +kernel
theorem dX4_add_18 : decode cX4_add 18 = .ok (.aload_n 0, 1) := by decide +kernel
theorem dX4_add_19 : decode cX4_add 19 = .ok (.getfield 27, 3) := by decide +kernel
theorem dX4_add_22 : decode cX4_add 22 = .ok (.iload_n 1, 1) := by decide +kernel
theorem dX4_add_23 : decode cX4_add 23 = .ok (.iastore, 1) := by decide +kernel
theorem dX4_add_24 : decode cX4_add 24 = .ok (.aload_n 0, 1) := by decide +kernel
theorem dX4_add_25 : decode cX4_add 25 = .ok (.getfield 21, 3) := by decide +kernel
theorem dX4_add_28 : decode cX4_add 28 = .ok (.aload_n 0, 1) := by decide +kernel
theorem dX4_add_29 : decode cX4_add 29 = .ok (.getfield 27, 3) := by decide +kernel
theorem dX4_add_32 : decode cX4_add 32 = .ok (.iload_n 2, 1) := by decide +kernel
theorem dX4_add_33 : decode cX4_add 33 = .ok (.iastore, 1) := by decide +kernel
theorem dX4_add_34 : decode cX4_add 34 = .ok (.aload_n 0, 1) := by decide +kernel
theorem dX4_add_35 : decode cX4_add 35 = .ok (.getfield 24, 3) := by decide +kernel
theorem dX4_add_38 : decode cX4_add 38 = .ok (.aload_n 0, 1) := by decide +kernel
theorem dX4_add_39 : decode cX4_add 39 = .ok (.getfield 27, 3) := by decide +kernel
theorem dX4_add_42 : decode cX4_add 42 = .ok (.iload_n 3, 1) := by decide +kernel
theorem dX4_add_43 : decode cX4_add 43 = .ok (.iastore, 1) := by decide +kernel
theorem dX4_add_44 : decode cX4_add 44 = .ok (.aload_n 0, 1) := by decide +kernel
theorem dX4_add_45 : decode cX4_add 45 = .ok (.dup, 1) := by decide +kernel
theorem dX4_add_46 : decode cX4_add 46 = .ok (.getfield 27, 3) := by decide +kernel
theorem dX4_add_49 : decode cX4_add 49 = .ok (.iconst 1, 1) := by decide +kernel
theorem dX4_add_50 : decode cX4_add 50 = .ok (.iadd, 1) := by decide +kernel
theorem dX4_add_51 : decode cX4_add 51 = .ok (.putfield 27, 3) := by decide +kernel
theorem dX4_add_54 : decode cX4_add 54 = .ok (.iconst 1, 1) := by decide +kernel
theorem dX4_add_55 : decode cX4_add 55 = .ok (.ireturn, 1) := by decide +kernel
theorem dX4_join_0 : decode cX4_join 0 = .ok (.aload_n 0, 1) := by decide +kernel
theorem dX4_join_1 : decode cX4_join 1 = .ok (.getfield 27, 3) := by decide +kernel
theorem dX4_join_4 : decode cX4_join 4 = .ok (.iconst 1, 1) := by decide +kernel
theorem dX4_join_5 : decode cX4_join 5 = .ok (.isub, 1) := by decide +kernel
theorem dX4_join_6 : decode cX4_join 6 = .ok (.istore 4, 2) := by decide +kernel
theorem dX4_join_8 : decode cX4_join 8 = .ok (.iload 4, 2) := by decide +kernel
theorem dX4_join_10 : decode cX4_join 10 = .ok (.ifCond .lt 38, 3) := by decide +kernel
theorem dX4_join_13 : decode cX4_join 13 = .ok (.aload_n 0, 1) := by decide +kernel
theorem dX4_join_14 : decode cX4_join 14 = .ok (.getfield 15, 3) := by decide +kernel
theorem dX4_join_17 : decode cX4_join 17 = .ok (.iload 4, 2) := by decide +kernel
theorem dX4_join_19 : decode cX4_join 19 = .ok (.iaload, 1) := by decide +kernel
theorem dX4_join_20 : decode cX4_join 20 = .ok (.iload_n 1, 1) := by decide +kernel
theorem dX4_join_21 : decode cX4_join 21 = .ok (.if_icmp .ne 27, 3) := by decide +kernel
theorem dX4_join_24 : decode cX4_join 24 = .ok (.aload_n 0, 1) := by decide +kernel
theorem dX4_join_25 : decode cX4_join 25 = .ok (.getfield 24, 3) := by decide +kernel
theorem dX4_join_28 : decode cX4_join 28 = .ok (.iload 4, 2) := by decide +kernel
theorem dX4_join_30 : decode cX4_join 30 = .ok (.iaload, 1) := by decide +kernel
theorem dX4_join_31 : decode cX4_join 31 = .ok (.iload_n 2, 1) := by decide +kernel
theorem dX4_join_32 : decode cX4_join 32 = .ok (.iconst 1, 1) := by decide +kernel
theorem dX4_join_33 : decode cX4_join 33 = .ok (.isub, 1) := by decide +kernel
theorem dX4_join_34 : decode cX4_join 34 = .ok (.if_icmp .ne 14, 3) := by decide +kernel
theorem dX4_join_37 : decode cX4_join 37 = .ok (.aload_n 0, 1) := by decide +kernel
theorem dX4_join_38 : decode cX4_join 38 = .ok (.getfield 24, 3) := by decide +kernel
theorem dX4_join_41 : decode cX4_join 41 = .ok (.iload 4, 2) := by decide +kernel
theorem dX4_join_43 : decode cX4_join 43 = .ok (.iload_n 3, 1) := by decide +kernel
theorem dX4_join_44 : decode cX4_join 44 = .ok (.iastore, 1) := by decide +kernel
theorem dX4_join_45 : decode cX4_join 45 = .ok (.goto 11, 3) := by decide +kernel
theorem dX4_join_48 : decode cX4_join 48 = .ok (.aload_n 0, 1) := by decide +kernel
theorem dX4_join_49 : decode cX4_join 49 = .ok (.iload_n 1, 1) := by decide +kernel
theorem dX4_join_50 : decode cX4_join 50 = .ok (.iload_n 2, 1) := by decide +kernel
theorem dX4_join_51 : decode cX4_join 51 = .ok (.iload_n 3, 1) := by decide +kernel
theorem dX4_join_52 : decode cX4_join 52 = .ok (.invokevirtual 35, 3) := by decide +kernel
theorem dX4_join_55 : decode cX4_join 55 = .ok (.pop, 1) := by decide +kernel
theorem dX4_join_56 : decode cX4_join 56 = .ok (.return_, 1) := by decide +kernel
theorem dX4_cutTo_0 : decode cX4_cutTo 0 = .ok (.iload_n 1, 1) := by decide +kernel
theorem dX4_cutTo_1 : decode cX4_cutTo 1 = .ok (.ifCond .lt 16, 3) := by decide +kernel
theorem dX4_cutTo_4 : decode cX4_cutTo 4 = .ok (.iload_n 1, 1) := by decide +kernel
theorem dX4_cutTo_5 : decode cX4_cutTo 5 = .ok (.aload_n 0, 1) := by decide +kernel
theorem dX4_cutTo_6 : decode cX4_cutTo 6 = .ok (.getfield 27, 3) := by decide +kernel
theorem dX4_cutTo_9 : decode cX4_cutTo 9 = .ok (.if_icmp .ge 8, 3) := by decide +kernel
theorem dX4_cutTo_12 : decode cX4_cutTo 12 = .ok (.aload_n 0, 1) := by decide +kernel
theorem dX4_cutTo_13 : decode cX4_cutTo 13 = .ok (.iload_n 1, 1) := by decide +kernel
theorem dX4_cutTo_14 : decode cX4_cutTo 14 = .ok (.putfield 27, 3) := by decide +kernel
theorem dX4_cutTo_17 : decode cX4_cutTo 17 = .ok (.return_, 1) := by decide +kernel
theorem dX4_copyFrom_0 : decode cX4_copyFrom 0 = .ok (.aload_n 1, 1) := by decide +kernel
theorem dX4_copyFrom_1 : decode cX4_copyFrom 1 = .ok (.getfield 27, 3) := by decide +kernel
theorem dX4_copyFrom_4 : decode cX4_copyFrom 4 = .ok (.aload_n 0, 1) := by decide +kernel
theorem dX4_copyFrom_5 : decode cX4_copyFrom 5 = .ok (.getfield 21, 3) := by decide +kernel
theorem dX4_copyFrom_8 : decode cX4_copyFrom 8 = .ok (.arraylength, 1) := by decide +kernel
theorem dX4_copyFrom_9 : decode cX4_copyFrom 9 = .ok (.invokestatic 39, 3) := by decide +kernel
theorem dX4_copyFrom_12 : decode cX4_copyFrom 12 = .ok (.istore_n 2, 1) := by decide +kernel
theorem dX4_copyFrom_13 : decode cX4_copyFrom 13 = .ok (.aload_n 1, 1) := by decide +kernel
theorem dX4_copyFrom_14 : decode cX4_copyFrom 14 = .ok (.getfield 15, 3) := by decide +kernel
theorem dX4_copyFrom_17 : decode cX4_copyFrom 17 = .ok (.iconst 0, 1) := by decide +kernel
theorem dX4_copyFrom_18 : decode cX4_copyFrom 18 = .ok (.aload_n 0, 1) := by decide +kernel
theorem dX4_copyFrom_19 : decode cX4_copyFrom 19 = .ok (.getfield 15, 3) := by decide +kernel
theorem dX4_copyFrom_22 : decode cX4_copyFrom 22 = .ok (.iconst 0, 1) := by decide +kernel
theorem dX4_copyFrom_23 : decode cX4_copyFrom 23 = .ok (.iload_n 2, 1) := by decide +kernel
theorem dX4_copyFrom_24 : decode cX4_copyFrom 24 = .ok (.invokestatic 42, 3) := by decide +kernel
theorem dX4_copyFrom_27 : decode cX4_copyFrom 27 = .ok (.aload_n 1, 1) := by decide +kernel
theorem dX4_copyFrom_28 : decode cX4_copyFrom 28 = .ok (.getfield 21, 3) := by decide +kernel
theorem dX4_copyFrom_31 : decode cX4_copyFrom 31 = .ok (.iconst 0, 1) := by decide +kernel
theorem dX4_copyFrom_32 : decode cX4_copyFrom 32 = .ok (.aload_n 0, 1) := by decide +kernel
theorem dX4_copyFrom_33 : decode cX4_copyFrom 33 = .ok (.getfield 21, 3) := by decide +kernel
theorem dX4_copyFrom_36 : decode cX4_copyFrom 36 = .ok (.iconst 0, 1) := by decide +kernel
theorem dX4_copyFrom_37 : decode cX4_copyFrom 37 = .ok (.iload_n 2, 1) := by decide +kernel
theorem dX4_copyFrom_38 : decode cX4_copyFrom 38 = .ok (.invokestatic 42, 3) := by decide +kernel
theorem dX4_copyFrom_41 : decode cX4_copyFrom 41 = .ok (.aload_n 1, 1) := by decide +kernel
theorem dX4_copyFrom_42 : decode cX4_copyFrom 42 = .ok (.getfield 24, 3) := by decide +kernel
theorem dX4_copyFrom_45 : decode cX4_copyFrom 45 = .ok (.iconst 0, 1) := by decide +kernel
theorem dX4_copyFrom_46 : decode cX4_copyFrom 46 = .ok (.aload_n 0, 1) := by decide +kernel
theorem dX4_copyFrom_47 : decode cX4_copyFrom 47 = .ok (.getfield 24, 3) := by decide +kernel
theorem dX4_copyFrom_50 : decode cX4_copyFrom 50 = .ok (.iconst 0, 1) := by decide +kernel
theorem dX4_copyFrom_51 : decode cX4_copyFrom 51 = .ok (.iload_n 2, 1) := by decide +kernel
theorem dX4_copyFrom_52 : decode cX4_copyFrom 52 = .ok (.invokestatic 42, 3) := by decide +kernel
theorem dX4_copyFrom_55 : decode cX4_copyFrom 55 = .ok (.aload_n 0, 1) := by decide +kernel
theorem dX4_copyFrom_56 : decode cX4_copyFrom 56 = .ok (.iload_n 2, 1) := by decide +kernel
theorem dX4_copyFrom_57 : decode cX4_copyFrom 57 = .ok (.putfield 27, 3) := by decide +kernel
theorem dX4_copyFrom_60 : decode cX4_copyFrom 60 = .ok (.return_, 1) := by decide +kernel
theorem dX4_becomeWith_0 : decode cX4_becomeWith 0 = .ok (.aload_n 0, 1) := by decide +kernel
theorem dX4_becomeWith_1 : decode cX4_becomeWith 1 = .ok (.iconst 0, 1) := by decide +kernel
theorem dX4_becomeWith_2 : decode cX4_becomeWith 2 = .ok (.putfield 27, 3) := by decide +kernel
theorem dX4_becomeWith_5 : decode cX4_becomeWith 5 = .ok (.iconst 0, 1) := by decide +kernel
theorem dX4_becomeWith_6 : decode cX4_becomeWith 6 = .ok (.istore 5, 2) := by decide +kernel
theorem dX4_becomeWith_8 : decode cX4_becomeWith 8 = .ok (.iload 5, 2) := by decide +kernel
theorem dX4_becomeWith_10 : decode cX4_becomeWith 10 = .ok (.aload_n 1, 1) := by decide +kernel
theorem dX4_becomeWith_11 : decode cX4_becomeWith 11 = .ok (.getfield 27, 3) := by decide +kernel
theorem dX4_becomeWith_14 : decode cX4_becomeWith 14 = .ok (.if_icmp .ge 51, 3) := by decide +kernel
theorem dX4_becomeWith_17 : decode cX4_becomeWith 17 = .ok (.aload_n 1, 1) := by decide +kernel
theorem dX4_becomeWith_18 : decode cX4_becomeWith 18 = .ok (.getfield 21, 3) := by decide +kernel
theorem dX4_becomeWith_21 : decode cX4_becomeWith 21 = .ok (.iload 5, 2) := by decide +kernel
theorem dX4_becomeWith_23 : decode cX4_becomeWith 23 = .ok (.iaload, 1) := by decide +kernel
theorem dX4_becomeWith_24 : decode cX4_becomeWith 24 = .ok (.iload_n 3, 1) := by decide +kernel
theorem dX4_becomeWith_25 : decode cX4_becomeWith 25 = .ok (.if_icmp .ge 34, 3) := by decide +kernel
theorem dX4_becomeWith_28 : decode cX4_becomeWith 28 = .ok (.aload_n 0, 1) := by decide +kernel
theorem dX4_becomeWith_29 : decode cX4_becomeWith 29 = .ok (.aload_n 1, 1) := by decide +kernel
theorem dX4_becomeWith_30 : decode cX4_becomeWith 30 = .ok (.getfield 15, 3) := by decide +kernel
theorem dX4_becomeWith_33 : decode cX4_becomeWith 33 = .ok (.iload 5, 2) := by decide +kernel
theorem dX4_becomeWith_35 : decode cX4_becomeWith 35 = .ok (.iaload, 1) := by decide +kernel
theorem dX4_becomeWith_36 : decode cX4_becomeWith 36 = .ok (.aload_n 1, 1) := by decide +kernel
theorem dX4_becomeWith_37 : decode cX4_becomeWith 37 = .ok (.getfield 21, 3) := by decide +kernel
theorem dX4_becomeWith_40 : decode cX4_becomeWith 40 = .ok (.iload 5, 2) := by decide +kernel
theorem dX4_becomeWith_42 : decode cX4_becomeWith 42 = .ok (.iaload, 1) := by decide +kernel
theorem dX4_becomeWith_43 : decode cX4_becomeWith 43 = .ok (.aload_n 1, 1) := by decide +kernel
theorem dX4_becomeWith_44 : decode cX4_becomeWith 44 = .ok (.getfield 24, 3) := by decide +kernel
theorem dX4_becomeWith_47 : decode cX4_becomeWith 47 = .ok (.iload 5, 2) := by decide +kernel
theorem dX4_becomeWith_49 : decode cX4_becomeWith 49 = .ok (.iaload, 1) := by decide +kernel
theorem dX4_becomeWith_50 : decode cX4_becomeWith 50 = .ok (.iload_n 3, 1) := by decide +kernel
theorem dX4_becomeWith_51 : decode cX4_becomeWith 51 = .ok (.iconst 1, 1) := by decide +kernel
theorem dX4_becomeWith_52 : decode cX4_becomeWith 52 = .ok (.isub, 1) := by decide +kernel
theorem dX4_becomeWith_53 : decode cX4_becomeWith 53 = .ok (.invokestatic 39, 3) := by decide +kernel
theorem dX4_becomeWith_56 : decode cX4_becomeWith 56 = .ok (.invokevirtual 48, 3) := by decide +kernel
theorem dX4_becomeWith_59 : decode cX4_becomeWith 59 = .ok (.iinc 5 1, 3) := by decide +kernel
theorem dX4_becomeWith_62 : decode cX4_becomeWith 62 = .ok (.goto (-54), 3) := by decide +kernel
theorem dX4_becomeWith_65 : decode cX4_becomeWith 65 = .ok (.iload_n 2, 1) := by decide +kernel
theorem dX4_becomeWith_66 : decode cX4_becomeWith 66 = .ok (.iconst (-1), 1) := by decide +kernel
theorem dX4_becomeWith_67 : decode cX4_becomeWith 67 = .ok (.if_icmp .eq 11, 3) := by decide +kernel
theorem dX4_becomeWith_70 : decode cX4_becomeWith 70 = .ok (.aload_n 0, 1) := by decide +kernel
theorem dX4_becomeWith_71 : decode cX4_becomeWith 71 = .ok (.iload_n 2, 1) := by decide +kernel
theorem dX4_becomeWith_72 : decode cX4_becomeWith 72 = .ok (.iload_n 3, 1) := by decide +kernel
theorem dX4_becomeWith_73 : decode cX4_becomeWith 73 = .ok (.iload 4, 2) := by decide +kernel
theorem dX4_becomeWith_75 : decode cX4_becomeWith 75 = .ok (.invokevirtual 48, 3) := by decide +kernel
theorem dX4_becomeWith_78 : decode cX4_becomeWith 78 = .ok (.iconst 0, 1) := by decide +kernel
theorem dX4_becomeWith_79 : decode cX4_becomeWith 79 = .ok (.istore 5, 2) := by decide +kernel
theorem dX4_becomeWith_81 : decode cX4_becomeWith 81 = .ok (.iload 5, 2) := by decide +kernel
theorem dX4_becomeWith_83 : decode cX4_becomeWith 83 = .ok (.aload_n 1, 1) := by decide +kernel
theorem dX4_becomeWith_84 : decode cX4_becomeWith 84 = .ok (.getfield 27, 3) := by decide +kernel
theorem dX4_becomeWith_87 : decode cX4_becomeWith 87 = .ok (.if_icmp .ge 53, 3) := by decide +kernel
theorem dX4_becomeWith_90 : decode cX4_becomeWith 90 = .ok (.aload_n 1, 1) := by decide +kernel
theorem dX4_becomeWith_91 : decode cX4_becomeWith 91 = .ok (.getfield 24, 3) := by decide +kernel
theorem dX4_becomeWith_94 : decode cX4_becomeWith 94 = .ok (.iload 5, 2) := by decide +kernel
theorem dX4_becomeWith_96 : decode cX4_becomeWith 96 = .ok (.iaload, 1) := by decide +kernel
theorem dX4_becomeWith_97 : decode cX4_becomeWith 97 = .ok (.iload 4, 2) := by decide +kernel
theorem dX4_becomeWith_99 : decode cX4_becomeWith 99 = .ok (.if_icmp .le 35, 3) := by decide +kernel
theorem dX4_becomeWith_102 : decode cX4_becomeWith 102 = .ok (.aload_n 0, 1) := by decide +kernel
theorem dX4_becomeWith_103 : decode cX4_becomeWith 103 = .ok (.aload_n 1, 1) := by decide +kernel
theorem dX4_becomeWith_104 : decode cX4_becomeWith 104 = .ok (.getfield 15, 3) := by decide +kernel
theorem dX4_becomeWith_107 : decode cX4_becomeWith 107 = .ok (.iload 5, 2) := by decide +kernel
theorem dX4_becomeWith_109 : decode cX4_becomeWith 109 = .ok (.iaload, 1) := by decide +kernel
theorem dX4_becomeWith_110 : decode cX4_becomeWith 110 = .ok (.aload_n 1, 1) := by decide +kernel
theorem dX4_becomeWith_111 : decode cX4_becomeWith 111 = .ok (.getfield 21, 3) := by decide +kernel
theorem dX4_becomeWith_114 : decode cX4_becomeWith 114 = .ok (.iload 5, 2) := by decide +kernel
theorem dX4_becomeWith_116 : decode cX4_becomeWith 116 = .ok (.iaload, 1) := by decide +kernel
theorem dX4_becomeWith_117 : decode cX4_becomeWith 117 = .ok (.iload 4, 2) := by decide +kernel
theorem dX4_becomeWith_119 : decode cX4_becomeWith 119 = .ok (.iconst 1, 1) := by decide +kernel
theorem dX4_becomeWith_120 : decode cX4_becomeWith 120 = .ok (.iadd, 1) := by decide +kernel
theorem dX4_becomeWith_121 : decode cX4_becomeWith 121 = .ok (.invokestatic 9, 3) := by decide +kernel
theorem dX4_becomeWith_124 : decode cX4_becomeWith 124 = .ok (.aload_n 1, 1) := by decide +kernel
theorem dX4_becomeWith_125 : decode cX4_becomeWith 125 = .ok (.getfield 24, 3) := by decide +kernel
theorem dX4_becomeWith_128 : decode cX4_becomeWith 128 = .ok (.iload 5, 2) := by decide +kernel
theorem dX4_becomeWith_130 : decode cX4_becomeWith 130 = .ok (.iaload, 1) := by decide +kernel
theorem dX4_becomeWith_131 : decode cX4_becomeWith 131 = .ok (.invokevirtual 48, 3) := by decide +kernel
theorem dX4_becomeWith_134 : decode cX4_becomeWith 134 = .ok (.iinc 5 1, 3) := by decide +kernel
theorem dX4_becomeWith_137 : decode cX4_becomeWith 137 = .ok (.goto (-56), 3) := by decide +kernel
theorem dX4_becomeWith_140 : decode cX4_becomeWith 140 = .ok (.return_, 1) := by decide +kernel
theorem dX4_becomeRemarked_0 : decode cX4_becomeRemarked 0 = .ok (.aload_n 0, 1) := by decide +kernel
theorem dX4_becomeRemarked_1 : decode cX4_becomeRemarked 1 = .ok (.iconst 0, 1) := by decide +kernel
theorem dX4_becomeRemarked_2 : decode cX4_becomeRemarked 2 = .ok (.putfield 27, 3) := by decide +kernel
theorem dX4_becomeRemarked_5 : decode cX4_becomeRemarked 5 = .ok (.iconst 0, 1) := by decide +kernel
theorem dX4_becomeRemarked_6 : decode cX4_becomeRemarked 6 = .ok (.istore 4, 2) := by decide +kernel
theorem dX4_becomeRemarked_8 : decode cX4_becomeRemarked 8 = .ok (.iload 4, 2) := by decide +kernel
theorem dX4_becomeRemarked_10 : decode cX4_becomeRemarked 10 = .ok (.aload_n 1, 1) := by decide +kernel
theorem dX4_becomeRemarked_11 : decode cX4_becomeRemarked 11 = .ok (.getfield 27, 3) := by decide +kernel
theorem dX4_becomeRemarked_14 : decode cX4_becomeRemarked 14 = .ok (.if_icmp .ge 49, 3) := by decide +kernel
theorem dX4_becomeRemarked_17 : decode cX4_becomeRemarked 17 = .ok (.aload_n 0, 1) := by decide +kernel
theorem dX4_becomeRemarked_18 : decode cX4_becomeRemarked 18 = .ok (.aload_n 1, 1) := by decide +kernel
theorem dX4_becomeRemarked_19 : decode cX4_becomeRemarked 19 = .ok (.getfield 15, 3) := by decide +kernel
theorem dX4_becomeRemarked_22 : decode cX4_becomeRemarked 22 = .ok (.iload 4, 2) := by decide +kernel
theorem dX4_becomeRemarked_24 : decode cX4_becomeRemarked 24 = .ok (.iaload, 1) := by decide +kernel
theorem dX4_becomeRemarked_25 : decode cX4_becomeRemarked 25 = .ok (.iload_n 2, 1) := by decide +kernel
theorem dX4_becomeRemarked_26 : decode cX4_becomeRemarked 26 = .ok (.if_icmp .ne 7, 3) := by decide +kernel
theorem dX4_becomeRemarked_29 : decode cX4_becomeRemarked 29 = .ok (.iload_n 3, 1) := by decide +kernel
theorem dX4_becomeRemarked_30 : decode cX4_becomeRemarked 30 = .ok (.goto 10, 3) := by decide +kernel
theorem dX4_becomeRemarked_33 : decode cX4_becomeRemarked 33 = .ok (.aload_n 1, 1) := by decide +kernel
theorem dX4_becomeRemarked_34 : decode cX4_becomeRemarked 34 = .ok (.getfield 15, 3) := by decide +kernel
theorem dX4_becomeRemarked_37 : decode cX4_becomeRemarked 37 = .ok (.iload 4, 2) := by decide +kernel
theorem dX4_becomeRemarked_39 : decode cX4_becomeRemarked 39 = .ok (.iaload, 1) := by decide +kernel
theorem dX4_becomeRemarked_40 : decode cX4_becomeRemarked 40 = .ok (.aload_n 1, 1) := by decide +kernel
theorem dX4_becomeRemarked_41 : decode cX4_becomeRemarked 41 = .ok (.getfield 21, 3) := by decide +kernel
theorem dX4_becomeRemarked_44 : decode cX4_becomeRemarked 44 = .ok (.iload 4, 2) := by decide +kernel
theorem dX4_becomeRemarked_46 : decode cX4_becomeRemarked 46 = .ok (.iaload, 1) := by decide +kernel
theorem dX4_becomeRemarked_47 : decode cX4_becomeRemarked 47 = .ok (.aload_n 1, 1) := by decide +kernel
theorem dX4_becomeRemarked_48 : decode cX4_becomeRemarked 48 = .ok (.getfield 24, 3) := by decide +kernel
theorem dX4_becomeRemarked_51 : decode cX4_becomeRemarked 51 = .ok (.iload 4, 2) := by decide +kernel
theorem dX4_becomeRemarked_53 : decode cX4_becomeRemarked 53 = .ok (.iaload, 1) := by decide +kernel
theorem dX4_becomeRemarked_54 : decode cX4_becomeRemarked 54 = .ok (.invokevirtual 48, 3) := by decide +kernel
theorem dX4_becomeRemarked_57 : decode cX4_becomeRemarked 57 = .ok (.iinc 4 1, 3) := by decide +kernel
theorem dX4_becomeRemarked_60 : decode cX4_becomeRemarked 60 = .ok (.goto (-52), 3) := by decide +kernel
theorem dX4_becomeRemarked_63 : decode cX4_becomeRemarked 63 = .ok (.return_, 1) := by decide +kernel
theorem dX4_meets_0 : decode cX4_meets 0 = .ok (.iload_n 1, 1) := by decide +kernel
theorem dX4_meets_1 : decode cX4_meets 1 = .ok (.ifCond .lt 35, 3) := by decide +kernel
theorem dX4_meets_4 : decode cX4_meets 4 = .ok (.iload_n 1, 1) := by decide +kernel
theorem dX4_meets_5 : decode cX4_meets 5 = .ok (.aload_n 0, 1) := by decide +kernel
theorem dX4_meets_6 : decode cX4_meets 6 = .ok (.getfield 27, 3) := by decide +kernel
theorem dX4_meets_9 : decode cX4_meets 9 = .ok (.if_icmp .ge 27, 3) := by decide +kernel
theorem dX4_meets_12 : decode cX4_meets 12 = .ok (.aload_n 0, 1) := by decide +kernel
theorem dX4_meets_13 : decode cX4_meets 13 = .ok (.getfield 21, 3) := by decide +kernel
theorem dX4_meets_16 : decode cX4_meets 16 = .ok (.iload_n 1, 1) := by decide +kernel
theorem dX4_meets_17 : decode cX4_meets 17 = .ok (.iaload, 1) := by decide +kernel
theorem dX4_meets_18 : decode cX4_meets 18 = .ok (.iload_n 3, 1) := by decide +kernel
theorem dX4_meets_19 : decode cX4_meets 19 = .ok (.if_icmp .gt 17, 3) := by decide +kernel
theorem dX4_meets_22 : decode cX4_meets 22 = .ok (.aload_n 0, 1) := by decide +kernel
theorem dX4_meets_23 : decode cX4_meets 23 = .ok (.getfield 24, 3) := by decide +kernel
theorem dX4_meets_26 : decode cX4_meets 26 = .ok (.iload_n 1, 1) := by decide +kernel
theorem dX4_meets_27 : decode cX4_meets 27 = .ok (.iaload, 1) := by decide +kernel
theorem dX4_meets_28 : decode cX4_meets 28 = .ok (.iload_n 2, 1) := by decide +kernel
theorem dX4_meets_29 : decode cX4_meets 29 = .ok (.if_icmp .lt 7, 3) := by decide +kernel
theorem dX4_meets_32 : decode cX4_meets 32 = .ok (.iconst 1, 1) := by decide +kernel
theorem dX4_meets_33 : decode cX4_meets 33 = .ok (.goto 4, 3) := by decide +kernel
theorem dX4_meets_36 : decode cX4_meets 36 = .ok (.iconst 0, 1) := by decide +kernel
theorem dX4_meets_37 : decode cX4_meets 37 = .ok (.ireturn, 1) := by decide +kernel
theorem dX4_includes_0 : decode cX4_includes 0 = .ok (.iload_n 1, 1) := by decide +kernel
theorem dX4_includes_1 : decode cX4_includes 1 = .ok (.ifCond .lt 35, 3) := by decide +kernel
theorem dX4_includes_4 : decode cX4_includes 4 = .ok (.iload_n 1, 1) := by decide +kernel
theorem dX4_includes_5 : decode cX4_includes 5 = .ok (.aload_n 0, 1) := by decide +kernel
theorem dX4_includes_6 : decode cX4_includes 6 = .ok (.getfield 27, 3) := by decide +kernel
theorem dX4_includes_9 : decode cX4_includes 9 = .ok (.if_icmp .ge 27, 3) := by decide +kernel
theorem dX4_includes_12 : decode cX4_includes 12 = .ok (.aload_n 0, 1) := by decide +kernel
theorem dX4_includes_13 : decode cX4_includes 13 = .ok (.getfield 21, 3) := by decide +kernel
theorem dX4_includes_16 : decode cX4_includes 16 = .ok (.iload_n 1, 1) := by decide +kernel
theorem dX4_includes_17 : decode cX4_includes 17 = .ok (.iaload, 1) := by decide +kernel
theorem dX4_includes_18 : decode cX4_includes 18 = .ok (.iload_n 2, 1) := by decide +kernel
theorem dX4_includes_19 : decode cX4_includes 19 = .ok (.if_icmp .gt 17, 3) := by decide +kernel
theorem dX4_includes_22 : decode cX4_includes 22 = .ok (.aload_n 0, 1) := by decide +kernel
theorem dX4_includes_23 : decode cX4_includes 23 = .ok (.getfield 24, 3) := by decide +kernel
theorem dX4_includes_26 : decode cX4_includes 26 = .ok (.iload_n 1, 1) := by decide +kernel
theorem dX4_includes_27 : decode cX4_includes 27 = .ok (.iaload, 1) := by decide +kernel
theorem dX4_includes_28 : decode cX4_includes 28 = .ok (.iload_n 2, 1) := by decide +kernel
theorem dX4_includes_29 : decode cX4_includes 29 = .ok (.if_icmp .lt 7, 3) := by decide +kernel
theorem dX4_includes_32 : decode cX4_includes 32 = .ok (.iconst 1, 1) := by decide +kernel
theorem dX4_includes_33 : decode cX4_includes 33 = .ok (.goto 4, 3) := by decide +kernel
theorem dX4_includes_36 : decode cX4_includes 36 = .ok (.iconst 0, 1) := by decide +kernel
theorem dX4_includes_37 : decode cX4_includes 37 = .ok (.ireturn, 1) := by decide +kernel
theorem dX4_sheetsIn_0 : decode cX4_sheetsIn 0 = .ok (.iconst 0, 1) := by decide +kernel
theorem dX4_sheetsIn_1 : decode cX4_sheetsIn 1 = .ok (.istore 4, 2) := by decide +kernel
theorem dX4_sheetsIn_3 : decode cX4_sheetsIn 3 = .ok (.iconst 0, 1) := by decide +kernel
theorem dX4_sheetsIn_4 : decode cX4_sheetsIn 4 = .ok (.istore 5, 2) := by decide +kernel
theorem dX4_sheetsIn_6 : decode cX4_sheetsIn 6 = .ok (.iload 5, 2) := by decide +kernel
theorem dX4_sheetsIn_8 : decode cX4_sheetsIn 8 = .ok (.aload_n 0, 1) := by decide +kernel
theorem dX4_sheetsIn_9 : decode cX4_sheetsIn 9 = .ok (.getfield 27, 3) := by decide +kernel
theorem dX4_sheetsIn_12 : decode cX4_sheetsIn 12 = .ok (.if_icmp .ge 67, 3) := by decide +kernel
theorem dX4_sheetsIn_15 : decode cX4_sheetsIn 15 = .ok (.iload_n 1, 1) := by decide +kernel
theorem dX4_sheetsIn_16 : decode cX4_sheetsIn 16 = .ok (.bipush (-100), 2) := by decide +kernel
theorem dX4_sheetsIn_18 : decode cX4_sheetsIn 18 = .ok (.if_icmp .eq 14, 3) := by decide +kernel
theorem dX4_sheetsIn_21 : decode cX4_sheetsIn 21 = .ok (.aload_n 0, 1) := by decide +kernel
theorem dX4_sheetsIn_22 : decode cX4_sheetsIn 22 = .ok (.getfield 15, 3) := by decide +kernel
theorem dX4_sheetsIn_25 : decode cX4_sheetsIn 25 = .ok (.iload 5, 2) := by decide +kernel
theorem dX4_sheetsIn_27 : decode cX4_sheetsIn 27 = .ok (.iaload, 1) := by decide +kernel
theorem dX4_sheetsIn_28 : decode cX4_sheetsIn 28 = .ok (.iload_n 1, 1) := by decide +kernel
theorem dX4_sheetsIn_29 : decode cX4_sheetsIn 29 = .ok (.if_icmp .ne 44, 3) := by decide +kernel
theorem dX4_sheetsIn_32 : decode cX4_sheetsIn 32 = .ok (.aload_n 0, 1) := by decide +kernel
theorem dX4_sheetsIn_33 : decode cX4_sheetsIn 33 = .ok (.iload 5, 2) := by decide +kernel
theorem dX4_sheetsIn_35 : decode cX4_sheetsIn 35 = .ok (.iload_n 2, 1) := by decide +kernel
theorem dX4_sheetsIn_36 : decode cX4_sheetsIn 36 = .ok (.iload_n 3, 1) := by decide +kernel
theorem dX4_sheetsIn_37 : decode cX4_sheetsIn 37 = .ok (.invokevirtual 52, 3) := by decide +kernel
theorem dX4_sheetsIn_40 : decode cX4_sheetsIn 40 = .ok (.ifCond .eq 33, 3) := by decide +kernel
theorem dX4_sheetsIn_43 : decode cX4_sheetsIn 43 = .ok (.iload 4, 2) := by decide +kernel
theorem dX4_sheetsIn_45 : decode cX4_sheetsIn 45 = .ok (.aload_n 0, 1) := by decide +kernel
theorem dX4_sheetsIn_46 : decode cX4_sheetsIn 46 = .ok (.getfield 24, 3) := by decide +kernel
theorem dX4_sheetsIn_49 : decode cX4_sheetsIn 49 = .ok (.iload 5, 2) := by decide +kernel
theorem dX4_sheetsIn_51 : decode cX4_sheetsIn 51 = .ok (.iaload, 1) := by decide +kernel
theorem dX4_sheetsIn_52 : decode cX4_sheetsIn 52 = .ok (.iload_n 3, 1) := by decide +kernel
theorem dX4_sheetsIn_53 : decode cX4_sheetsIn 53 = .ok (.invokestatic 39, 3) := by decide +kernel
theorem dX4_sheetsIn_56 : decode cX4_sheetsIn 56 = .ok (.aload_n 0, 1) := by decide +kernel
theorem dX4_sheetsIn_57 : decode cX4_sheetsIn 57 = .ok (.getfield 21, 3) := by decide +kernel
theorem dX4_sheetsIn_60 : decode cX4_sheetsIn 60 = .ok (.iload 5, 2) := by decide +kernel
theorem dX4_sheetsIn_62 : decode cX4_sheetsIn 62 = .ok (.iaload, 1) := by decide +kernel
theorem dX4_sheetsIn_63 : decode cX4_sheetsIn 63 = .ok (.iload_n 2, 1) := by decide +kernel
theorem dX4_sheetsIn_64 : decode cX4_sheetsIn 64 = .ok (.invokestatic 9, 3) := by decide +kernel
theorem dX4_sheetsIn_67 : decode cX4_sheetsIn 67 = .ok (.isub, 1) := by decide +kernel
theorem dX4_sheetsIn_68 : decode cX4_sheetsIn 68 = .ok (.iconst 1, 1) := by decide +kernel
theorem dX4_sheetsIn_69 : decode cX4_sheetsIn 69 = .ok (.iadd, 1) := by decide +kernel
theorem dX4_sheetsIn_70 : decode cX4_sheetsIn 70 = .ok (.iadd, 1) := by decide +kernel
theorem dX4_sheetsIn_71 : decode cX4_sheetsIn 71 = .ok (.istore 4, 2) := by decide +kernel
theorem dX4_sheetsIn_73 : decode cX4_sheetsIn 73 = .ok (.iinc 5 1, 3) := by decide +kernel
theorem dX4_sheetsIn_76 : decode cX4_sheetsIn 76 = .ok (.goto (-70), 3) := by decide +kernel
theorem dX4_sheetsIn_79 : decode cX4_sheetsIn 79 = .ok (.iload 4, 2) := by decide +kernel
theorem dX4_sheetsIn_81 : decode cX4_sheetsIn 81 = .ok (.ireturn, 1) := by decide +kernel
theorem dX4_countOf_0 : decode cX4_countOf 0 = .ok (.iconst 0, 1) := by decide +kernel
theorem dX4_countOf_1 : decode cX4_countOf 1 = .ok (.istore_n 2, 1) := by decide +kernel
theorem dX4_countOf_2 : decode cX4_countOf 2 = .ok (.iconst 0, 1) := by decide +kernel
theorem dX4_countOf_3 : decode cX4_countOf 3 = .ok (.istore_n 3, 1) := by decide +kernel
theorem dX4_countOf_4 : decode cX4_countOf 4 = .ok (.iload_n 3, 1) := by decide +kernel
theorem dX4_countOf_5 : decode cX4_countOf 5 = .ok (.aload_n 0, 1) := by decide +kernel
theorem dX4_countOf_6 : decode cX4_countOf 6 = .ok (.getfield 27, 3) := by decide +kernel
theorem dX4_countOf_9 : decode cX4_countOf 9 = .ok (.if_icmp .ge 22, 3) := by decide +kernel
theorem dX4_countOf_12 : decode cX4_countOf 12 = .ok (.aload_n 0, 1) := by decide +kernel
theorem dX4_countOf_13 : decode cX4_countOf 13 = .ok (.getfield 15, 3) := by decide +kernel
theorem dX4_countOf_16 : decode cX4_countOf 16 = .ok (.iload_n 3, 1) := by decide +kernel
theorem dX4_countOf_17 : decode cX4_countOf 17 = .ok (.iaload, 1) := by decide +kernel
theorem dX4_countOf_18 : decode cX4_countOf 18 = .ok (.iload_n 1, 1) := by decide +kernel
theorem dX4_countOf_19 : decode cX4_countOf 19 = .ok (.if_icmp .ne 6, 3) := by decide +kernel
theorem dX4_countOf_22 : decode cX4_countOf 22 = .ok (.iinc 2 1, 3) := by decide +kernel
theorem dX4_countOf_25 : decode cX4_countOf 25 = .ok (.iinc 3 1, 3) := by decide +kernel
theorem dX4_countOf_28 : decode cX4_countOf 28 = .ok (.goto (-24), 3) := by decide +kernel
theorem dX4_countOf_31 : decode cX4_countOf 31 = .ok (.iload_n 2, 1) := by decide +kernel
theorem dX4_countOf_32 : decode cX4_countOf 32 = .ok (.ireturn, 1) := by decide +kernel
theorem dX4_marksWithin_0 : decode cX4_marksWithin 0 = .ok (.iconst 0, 1) := by decide +kernel
theorem dX4_marksWithin_1 : decode cX4_marksWithin 1 = .ok (.istore_n 3, 1) := by decide +kernel
theorem dX4_marksWithin_2 : decode cX4_marksWithin 2 = .ok (.iconst 0, 1) := by decide +kernel
theorem dX4_marksWithin_3 : decode cX4_marksWithin 3 = .ok (.istore 4, 2) := by decide +kernel
theorem dX4_marksWithin_5 : decode cX4_marksWithin 5 = .ok (.iload 4, 2) := by decide +kernel
theorem dX4_marksWithin_7 : decode cX4_marksWithin 7 = .ok (.aload_n 0, 1) := by decide +kernel
theorem dX4_marksWithin_8 : decode cX4_marksWithin 8 = .ok (.getfield 27, 3) := by decide +kernel
theorem dX4_marksWithin_11 : decode cX4_marksWithin 11 = .ok (.if_icmp .ge 32, 3) := by decide +kernel
theorem dX4_marksWithin_14 : decode cX4_marksWithin 14 = .ok (.aload_n 0, 1) := by decide +kernel
theorem dX4_marksWithin_15 : decode cX4_marksWithin 15 = .ok (.iload 4, 2) := by decide +kernel
theorem dX4_marksWithin_17 : decode cX4_marksWithin 17 = .ok (.iload_n 1, 1) := by decide +kernel
theorem dX4_marksWithin_18 : decode cX4_marksWithin 18 = .ok (.iload_n 2, 1) := by decide +kernel
theorem dX4_marksWithin_19 : decode cX4_marksWithin 19 = .ok (.invokevirtual 52, 3) := by decide +kernel
theorem dX4_marksWithin_22 : decode cX4_marksWithin 22 = .ok (.ifCond .eq 15, 3) := by decide +kernel
theorem dX4_marksWithin_25 : decode cX4_marksWithin 25 = .ok (.iload_n 3, 1) := by decide +kernel
theorem dX4_marksWithin_26 : decode cX4_marksWithin 26 = .ok (.iconst 1, 1) := by decide +kernel
theorem dX4_marksWithin_27 : decode cX4_marksWithin 27 = .ok (.aload_n 0, 1) := by decide +kernel
theorem dX4_marksWithin_28 : decode cX4_marksWithin 28 = .ok (.getfield 15, 3) := by decide +kernel
theorem dX4_marksWithin_31 : decode cX4_marksWithin 31 = .ok (.iload 4, 2) := by decide +kernel
theorem dX4_marksWithin_33 : decode cX4_marksWithin 33 = .ok (.iaload, 1) := by decide +kernel
theorem dX4_marksWithin_34 : decode cX4_marksWithin 34 = .ok (.ishl, 1) := by decide +kernel
theorem dX4_marksWithin_35 : decode cX4_marksWithin 35 = .ok (.ior, 1) := by decide +kernel
theorem dX4_marksWithin_36 : decode cX4_marksWithin 36 = .ok (.istore_n 3, 1) := by decide +kernel
theorem dX4_marksWithin_37 : decode cX4_marksWithin 37 = .ok (.iinc 4 1, 3) := by decide +kernel
theorem dX4_marksWithin_40 : decode cX4_marksWithin 40 = .ok (.goto (-35), 3) := by decide +kernel
theorem dX4_marksWithin_43 : decode cX4_marksWithin 43 = .ok (.iload_n 3, 1) := by decide +kernel
theorem dX4_marksWithin_44 : decode cX4_marksWithin 44 = .ok (.ireturn, 1) := by decide +kernel
theorem dX4_lowestOf_0 : decode cX4_lowestOf 0 = .ok (.iconst 0, 1) := by decide +kernel
theorem dX4_lowestOf_1 : decode cX4_lowestOf 1 = .ok (.istore_n 2, 1) := by decide +kernel
theorem dX4_lowestOf_2 : decode cX4_lowestOf 2 = .ok (.iload_n 2, 1) := by decide +kernel
theorem dX4_lowestOf_3 : decode cX4_lowestOf 3 = .ok (.aload_n 0, 1) := by decide +kernel
theorem dX4_lowestOf_4 : decode cX4_lowestOf 4 = .ok (.getfield 27, 3) := by decide +kernel
theorem dX4_lowestOf_7 : decode cX4_lowestOf 7 = .ok (.if_icmp .ge 26, 3) := by decide +kernel
theorem dX4_lowestOf_10 : decode cX4_lowestOf 10 = .ok (.aload_n 0, 1) := by decide +kernel
theorem dX4_lowestOf_11 : decode cX4_lowestOf 11 = .ok (.getfield 15, 3) := by decide +kernel
theorem dX4_lowestOf_14 : decode cX4_lowestOf 14 = .ok (.iload_n 2, 1) := by decide +kernel
theorem dX4_lowestOf_15 : decode cX4_lowestOf 15 = .ok (.iaload, 1) := by decide +kernel
theorem dX4_lowestOf_16 : decode cX4_lowestOf 16 = .ok (.iload_n 1, 1) := by decide +kernel
theorem dX4_lowestOf_17 : decode cX4_lowestOf 17 = .ok (.if_icmp .ne 10, 3) := by decide +kernel
theorem dX4_lowestOf_20 : decode cX4_lowestOf 20 = .ok (.aload_n 0, 1) := by decide +kernel
theorem dX4_lowestOf_21 : decode cX4_lowestOf 21 = .ok (.getfield 21, 3) := by decide +kernel
theorem dX4_lowestOf_24 : decode cX4_lowestOf 24 = .ok (.iload_n 2, 1) := by decide +kernel
theorem dX4_lowestOf_25 : decode cX4_lowestOf 25 = .ok (.iaload, 1) := by decide +kernel
theorem dX4_lowestOf_26 : decode cX4_lowestOf 26 = .ok (.ireturn, 1) := by decide +kernel
theorem dX4_lowestOf_27 : decode cX4_lowestOf 27 = .ok (.iinc 2 1, 3) := by decide +kernel
theorem dX4_lowestOf_30 : decode cX4_lowestOf 30 = .ok (.goto (-28), 3) := by decide +kernel
theorem dX4_lowestOf_33 : decode cX4_lowestOf 33 = .ok (.iconst (-1), 1) := by decide +kernel
theorem dX4_lowestOf_34 : decode cX4_lowestOf 34 = .ok (.ireturn, 1) := by decide +kernel
theorem dX4_highestOf_0 : decode cX4_highestOf 0 = .ok (.aload_n 0, 1) := by decide +kernel
theorem dX4_highestOf_1 : decode cX4_highestOf 1 = .ok (.getfield 27, 3) := by decide +kernel
theorem dX4_highestOf_4 : decode cX4_highestOf 4 = .ok (.iconst 1, 1) := by decide +kernel
theorem dX4_highestOf_5 : decode cX4_highestOf 5 = .ok (.isub, 1) := by decide +kernel
theorem dX4_highestOf_6 : decode cX4_highestOf 6 = .ok (.istore_n 2, 1) := by decide +kernel
theorem dX4_highestOf_7 : decode cX4_highestOf 7 = .ok (.iload_n 2, 1) := by decide +kernel
theorem dX4_highestOf_8 : decode cX4_highestOf 8 = .ok (.ifCond .lt 26, 3) := by decide +kernel
theorem dX4_highestOf_11 : decode cX4_highestOf 11 = .ok (.aload_n 0, 1) := by decide +kernel
theorem dX4_highestOf_12 : decode cX4_highestOf 12 = .ok (.getfield 15, 3) := by decide +kernel
theorem dX4_highestOf_15 : decode cX4_highestOf 15 = .ok (.iload_n 2, 1) := by decide +kernel
theorem dX4_highestOf_16 : decode cX4_highestOf 16 = .ok (.iaload, 1) := by decide +kernel
theorem dX4_highestOf_17 : decode cX4_highestOf 17 = .ok (.iload_n 1, 1) := by decide +kernel
theorem dX4_highestOf_18 : decode cX4_highestOf 18 = .ok (.if_icmp .ne 10, 3) := by decide +kernel
theorem dX4_highestOf_21 : decode cX4_highestOf 21 = .ok (.aload_n 0, 1) := by decide +kernel
theorem dX4_highestOf_22 : decode cX4_highestOf 22 = .ok (.getfield 24, 3) := by decide +kernel
theorem dX4_highestOf_25 : decode cX4_highestOf 25 = .ok (.iload_n 2, 1) := by decide +kernel
theorem dX4_highestOf_26 : decode cX4_highestOf 26 = .ok (.iaload, 1) := by decide +kernel
theorem dX4_highestOf_27 : decode cX4_highestOf 27 = .ok (.ireturn, 1) := by decide +kernel
theorem dX4_highestOf_28 : decode cX4_highestOf 28 = .ok (.iinc 2 (-1), 3) := by decide +kernel
theorem dX4_highestOf_31 : decode cX4_highestOf 31 = .ok (.goto (-24), 3) := by decide +kernel
theorem dX4_highestOf_34 : decode cX4_highestOf 34 = .ok (.iconst (-1), 1) := by decide +kernel
theorem dX4_highestOf_35 : decode cX4_highestOf 35 = .ok (.ireturn, 1) := by decide +kernel
theorem dX4_bareFrom_0 : decode cX4_bareFrom 0 = .ok (.iload_n 2, 1) := by decide +kernel
theorem dX4_bareFrom_1 : decode cX4_bareFrom 1 = .ok (.istore_n 3, 1) := by decide +kernel
theorem dX4_bareFrom_2 : decode cX4_bareFrom 2 = .ok (.iconst 0, 1) := by decide +kernel
theorem dX4_bareFrom_3 : decode cX4_bareFrom 3 = .ok (.istore 4, 2) := by decide +kernel
theorem dX4_bareFrom_5 : decode cX4_bareFrom 5 = .ok (.iload 4, 2) := by decide +kernel
theorem dX4_bareFrom_7 : decode cX4_bareFrom 7 = .ok (.aload_n 0, 1) := by decide +kernel
theorem dX4_bareFrom_8 : decode cX4_bareFrom 8 = .ok (.getfield 27, 3) := by decide +kernel
theorem dX4_bareFrom_11 : decode cX4_bareFrom 11 = .ok (.if_icmp .ge 70, 3) := by decide +kernel
theorem dX4_bareFrom_14 : decode cX4_bareFrom 14 = .ok (.iload_n 3, 1) := by decide +kernel
theorem dX4_bareFrom_15 : decode cX4_bareFrom 15 = .ok (.istore 5, 2) := by decide +kernel
theorem dX4_bareFrom_17 : decode cX4_bareFrom 17 = .ok (.iconst 0, 1) := by decide +kernel
theorem dX4_bareFrom_18 : decode cX4_bareFrom 18 = .ok (.istore 6, 2) := by decide +kernel
theorem dX4_bareFrom_20 : decode cX4_bareFrom 20 = .ok (.iload 6, 2) := by decide +kernel
theorem dX4_bareFrom_22 : decode cX4_bareFrom 22 = .ok (.aload_n 0, 1) := by decide +kernel
theorem dX4_bareFrom_23 : decode cX4_bareFrom 23 = .ok (.getfield 27, 3) := by decide +kernel
theorem dX4_bareFrom_26 : decode cX4_bareFrom 26 = .ok (.if_icmp .ge 40, 3) := by decide +kernel
theorem dX4_bareFrom_29 : decode cX4_bareFrom 29 = .ok (.aload_n 0, 1) := by decide +kernel
theorem dX4_bareFrom_30 : decode cX4_bareFrom 30 = .ok (.getfield 15, 3) := by decide +kernel
theorem dX4_bareFrom_33 : decode cX4_bareFrom 33 = .ok (.iload 6, 2) := by decide +kernel
theorem dX4_bareFrom_35 : decode cX4_bareFrom 35 = .ok (.iaload, 1) := by decide +kernel
theorem dX4_bareFrom_36 : decode cX4_bareFrom 36 = .ok (.iload_n 1, 1) := by decide +kernel
theorem dX4_bareFrom_37 : decode cX4_bareFrom 37 = .ok (.if_icmp .ne 23, 3) := by decide +kernel
theorem dX4_bareFrom_40 : decode cX4_bareFrom 40 = .ok (.aload_n 0, 1) := by decide +kernel
theorem dX4_bareFrom_41 : decode cX4_bareFrom 41 = .ok (.iload 6, 2) := by decide +kernel
theorem dX4_bareFrom_43 : decode cX4_bareFrom 43 = .ok (.iload_n 3, 1) := by decide +kernel
theorem dX4_bareFrom_44 : decode cX4_bareFrom 44 = .ok (.invokevirtual 55, 3) := by decide +kernel
theorem dX4_bareFrom_47 : decode cX4_bareFrom 47 = .ok (.ifCond .eq 13, 3) := by decide +kernel
theorem dX4_bareFrom_50 : decode cX4_bareFrom 50 = .ok (.aload_n 0, 1) := by decide +kernel
theorem dX4_bareFrom_51 : decode cX4_bareFrom 51 = .ok (.getfield 24, 3) := by decide +kernel
theorem dX4_bareFrom_54 : decode cX4_bareFrom 54 = .ok (.iload 6, 2) := by decide +kernel
theorem dX4_bareFrom_56 : decode cX4_bareFrom 56 = .ok (.iaload, 1) := by decide +kernel
theorem dX4_bareFrom_57 : decode cX4_bareFrom 57 = .ok (.iconst 1, 1) := by decide +kernel
theorem dX4_bareFrom_58 : decode cX4_bareFrom 58 = .ok (.iadd, 1) := by decide +kernel
theorem dX4_bareFrom_59 : decode cX4_bareFrom 59 = .ok (.istore_n 3, 1) := by decide +kernel
theorem dX4_bareFrom_60 : decode cX4_bareFrom 60 = .ok (.iinc 6 1, 3) := by decide +kernel
theorem dX4_bareFrom_63 : decode cX4_bareFrom 63 = .ok (.goto (-43), 3) := by decide +kernel
theorem dX4_bareFrom_66 : decode cX4_bareFrom 66 = .ok (.iload_n 3, 1) := by decide +kernel
theorem dX4_bareFrom_67 : decode cX4_bareFrom 67 = .ok (.iload 5, 2) := by decide +kernel
theorem dX4_bareFrom_69 : decode cX4_bareFrom 69 = .ok (.if_icmp .ne 6, 3) := by decide +kernel
theorem dX4_bareFrom_72 : decode cX4_bareFrom 72 = .ok (.goto 9, 3) := by decide +kernel
theorem dX4_bareFrom_75 : decode cX4_bareFrom 75 = .ok (.iinc 4 1, 3) := by decide +kernel
theorem dX4_bareFrom_78 : decode cX4_bareFrom 78 = .ok (.goto (-73), 3) := by decide +kernel
theorem dX4_bareFrom_81 : decode cX4_bareFrom 81 = .ok (.iload_n 3, 1) := by decide +kernel
theorem dX4_bareFrom_82 : decode cX4_bareFrom 82 = .ok (.ireturn, 1) := by decide +kernel
theorem dX4_bareTo_0 : decode cX4_bareTo 0 = .ok (.iload_n 3, 1) := by decide +kernel
theorem dX4_bareTo_1 : decode cX4_bareTo 1 = .ok (.istore 4, 2) := by decide +kernel
theorem dX4_bareTo_3 : decode cX4_bareTo 3 = .ok (.iconst 0, 1) := by decide +kernel
theorem dX4_bareTo_4 : decode cX4_bareTo 4 = .ok (.istore 5, 2) := by decide +kernel
theorem dX4_bareTo_6 : decode cX4_bareTo 6 = .ok (.iload 5, 2) := by decide +kernel
theorem dX4_bareTo_8 : decode cX4_bareTo 8 = .ok (.aload_n 0, 1) := by decide +kernel
theorem dX4_bareTo_9 : decode cX4_bareTo 9 = .ok (.getfield 27, 3) := by decide +kernel
theorem dX4_bareTo_12 : decode cX4_bareTo 12 = .ok (.if_icmp .ge 54, 3) := by decide +kernel
theorem dX4_bareTo_15 : decode cX4_bareTo 15 = .ok (.aload_n 0, 1) := by decide +kernel
theorem dX4_bareTo_16 : decode cX4_bareTo 16 = .ok (.getfield 15, 3) := by decide +kernel
theorem dX4_bareTo_19 : decode cX4_bareTo 19 = .ok (.iload 5, 2) := by decide +kernel
theorem dX4_bareTo_21 : decode cX4_bareTo 21 = .ok (.iaload, 1) := by decide +kernel
theorem dX4_bareTo_22 : decode cX4_bareTo 22 = .ok (.iload_n 1, 1) := by decide +kernel
theorem dX4_bareTo_23 : decode cX4_bareTo 23 = .ok (.if_icmp .ne 37, 3) := by decide +kernel
theorem dX4_bareTo_26 : decode cX4_bareTo 26 = .ok (.aload_n 0, 1) := by decide +kernel
theorem dX4_bareTo_27 : decode cX4_bareTo 27 = .ok (.getfield 21, 3) := by decide +kernel
theorem dX4_bareTo_30 : decode cX4_bareTo 30 = .ok (.iload 5, 2) := by decide +kernel
theorem dX4_bareTo_32 : decode cX4_bareTo 32 = .ok (.iaload, 1) := by decide +kernel
theorem dX4_bareTo_33 : decode cX4_bareTo 33 = .ok (.iload_n 2, 1) := by decide +kernel
theorem dX4_bareTo_34 : decode cX4_bareTo 34 = .ok (.if_icmp .le 26, 3) := by decide +kernel
theorem dX4_bareTo_37 : decode cX4_bareTo 37 = .ok (.aload_n 0, 1) := by decide +kernel
theorem dX4_bareTo_38 : decode cX4_bareTo 38 = .ok (.getfield 21, 3) := by decide +kernel
theorem dX4_bareTo_41 : decode cX4_bareTo 41 = .ok (.iload 5, 2) := by decide +kernel
theorem dX4_bareTo_43 : decode cX4_bareTo 43 = .ok (.iaload, 1) := by decide +kernel
theorem dX4_bareTo_44 : decode cX4_bareTo 44 = .ok (.iload 4, 2) := by decide +kernel
theorem dX4_bareTo_46 : decode cX4_bareTo 46 = .ok (.if_icmp .gt 14, 3) := by decide +kernel
theorem dX4_bareTo_49 : decode cX4_bareTo 49 = .ok (.aload_n 0, 1) := by decide +kernel
theorem dX4_bareTo_50 : decode cX4_bareTo 50 = .ok (.getfield 21, 3) := by decide +kernel
theorem dX4_bareTo_53 : decode cX4_bareTo 53 = .ok (.iload 5, 2) := by decide +kernel
theorem dX4_bareTo_55 : decode cX4_bareTo 55 = .ok (.iaload, 1) := by decide +kernel
theorem dX4_bareTo_56 : decode cX4_bareTo 56 = .ok (.iconst 1, 1) := by decide +kernel
theorem dX4_bareTo_57 : decode cX4_bareTo 57 = .ok (.isub, 1) := by decide +kernel
theorem dX4_bareTo_58 : decode cX4_bareTo 58 = .ok (.istore 4, 2) := by decide +kernel
theorem dX4_bareTo_60 : decode cX4_bareTo 60 = .ok (.iinc 5 1, 3) := by decide +kernel
theorem dX4_bareTo_63 : decode cX4_bareTo 63 = .ok (.goto (-57), 3) := by decide +kernel
theorem dX4_bareTo_66 : decode cX4_bareTo 66 = .ok (.iload 4, 2) := by decide +kernel
theorem dX4_bareTo_68 : decode cX4_bareTo 68 = .ok (.ireturn, 1) := by decide +kernel
theorem dX4_bareSheets_0 : decode cX4_bareSheets 0 = .ok (.iconst 0, 1) := by decide +kernel
theorem dX4_bareSheets_1 : decode cX4_bareSheets 1 = .ok (.istore 4, 2) := by decide +kernel
theorem dX4_bareSheets_3 : decode cX4_bareSheets 3 = .ok (.aload_n 0, 1) := by decide +kernel
theorem dX4_bareSheets_4 : decode cX4_bareSheets 4 = .ok (.iload_n 1, 1) := by decide +kernel
theorem dX4_bareSheets_5 : decode cX4_bareSheets 5 = .ok (.iload_n 2, 1) := by decide +kernel
theorem dX4_bareSheets_6 : decode cX4_bareSheets 6 = .ok (.invokevirtual 59, 3) := by decide +kernel
theorem dX4_bareSheets_9 : decode cX4_bareSheets 9 = .ok (.istore 5, 2) := by decide +kernel
theorem dX4_bareSheets_11 : decode cX4_bareSheets 11 = .ok (.iconst 0, 1) := by decide +kernel
theorem dX4_bareSheets_12 : decode cX4_bareSheets 12 = .ok (.istore 6, 2) := by decide +kernel
theorem dX4_bareSheets_14 : decode cX4_bareSheets 14 = .ok (.iload 6, 2) := by decide +kernel
theorem dX4_bareSheets_16 : decode cX4_bareSheets 16 = .ok (.aload_n 0, 1) := by decide +kernel
theorem dX4_bareSheets_17 : decode cX4_bareSheets 17 = .ok (.getfield 27, 3) := by decide +kernel
theorem dX4_bareSheets_20 : decode cX4_bareSheets 20 = .ok (.if_icmp .gt 48, 3) := by decide +kernel
theorem dX4_bareSheets_23 : decode cX4_bareSheets 23 = .ok (.iload 5, 2) := by decide +kernel
theorem dX4_bareSheets_25 : decode cX4_bareSheets 25 = .ok (.iload_n 3, 1) := by decide +kernel
theorem dX4_bareSheets_26 : decode cX4_bareSheets 26 = .ok (.if_icmp .gt 42, 3) := by decide +kernel
theorem dX4_bareSheets_29 : decode cX4_bareSheets 29 = .ok (.aload_n 0, 1) := by decide +kernel
theorem dX4_bareSheets_30 : decode cX4_bareSheets 30 = .ok (.iload_n 1, 1) := by decide +kernel
theorem dX4_bareSheets_31 : decode cX4_bareSheets 31 = .ok (.iload 5, 2) := by decide +kernel
theorem dX4_bareSheets_33 : decode cX4_bareSheets 33 = .ok (.iload_n 3, 1) := by decide +kernel
theorem dX4_bareSheets_34 : decode cX4_bareSheets 34 = .ok (.invokevirtual 62, 3) := by decide +kernel
theorem dX4_bareSheets_37 : decode cX4_bareSheets 37 = .ok (.istore 7, 2) := by decide +kernel
theorem dX4_bareSheets_39 : decode cX4_bareSheets 39 = .ok (.iload 4, 2) := by decide +kernel
theorem dX4_bareSheets_41 : decode cX4_bareSheets 41 = .ok (.iload 7, 2) := by decide +kernel
theorem dX4_bareSheets_43 : decode cX4_bareSheets 43 = .ok (.iload 5, 2) := by decide +kernel
theorem dX4_bareSheets_45 : decode cX4_bareSheets 45 = .ok (.isub, 1) := by decide +kernel
theorem dX4_bareSheets_46 : decode cX4_bareSheets 46 = .ok (.iconst 1, 1) := by decide +kernel
theorem dX4_bareSheets_47 : decode cX4_bareSheets 47 = .ok (.iadd, 1) := by decide +kernel
theorem dX4_bareSheets_48 : decode cX4_bareSheets 48 = .ok (.iadd, 1) := by decide +kernel
theorem dX4_bareSheets_49 : decode cX4_bareSheets 49 = .ok (.istore 4, 2) := by decide +kernel
theorem dX4_bareSheets_51 : decode cX4_bareSheets 51 = .ok (.aload_n 0, 1) := by decide +kernel
theorem dX4_bareSheets_52 : decode cX4_bareSheets 52 = .ok (.iload_n 1, 1) := by decide +kernel
theorem dX4_bareSheets_53 : decode cX4_bareSheets 53 = .ok (.iload 7, 2) := by decide +kernel
theorem dX4_bareSheets_55 : decode cX4_bareSheets 55 = .ok (.iconst 1, 1) := by decide +kernel
theorem dX4_bareSheets_56 : decode cX4_bareSheets 56 = .ok (.iadd, 1) := by decide +kernel
theorem dX4_bareSheets_57 : decode cX4_bareSheets 57 = .ok (.invokevirtual 59, 3) := by decide +kernel
theorem dX4_bareSheets_60 : decode cX4_bareSheets 60 = .ok (.istore 5, 2) := by decide +kernel
theorem dX4_bareSheets_62 : decode cX4_bareSheets 62 = .ok (.iinc 6 1, 3) := by decide +kernel
theorem dX4_bareSheets_65 : decode cX4_bareSheets 65 = .ok (.goto (-51), 3) := by decide +kernel
theorem dX4_bareSheets_68 : decode cX4_bareSheets 68 = .ok (.iload 4, 2) := by decide +kernel
theorem dX4_bareSheets_70 : decode cX4_bareSheets 70 = .ok (.ireturn, 1) := by decide +kernel
theorem dX5_init_0 : decode cX5_init 0 = .ok (.aload_n 0, 1) := by decide +kernel
theorem dX5_init_1 : decode cX5_init 1 = .ok (.invokespecial 3, 3) := by decide +kernel
theorem dX5_init_4 : decode cX5_init 4 = .ok (.aload_n 0, 1) := by decide +kernel
theorem dX5_init_5 : decode cX5_init 5 = .ok (.bipush 8, 2) := by decide +kernel
theorem dX5_init_7 : decode cX5_init 7 = .ok (.newarray .int, 2) := by decide +kernel
theorem dX5_init_9 : decode cX5_init 9 = .ok (.putfield 9, 3) := by decide +kernel
theorem dX5_init_12 : decode cX5_init 12 = .ok (.aload_n 0, 1) := by decide +kernel
theorem dX5_init_13 : decode cX5_init 13 = .ok (.new 15, 3) := by decide +kernel
theorem dX5_init_16 : decode cX5_init 16 = .ok (.dup, 1) := by decide +kernel
theorem dX5_init_17 : decode cX5_init 17 = .ok (.bipush 40, 2) := by decide +kernel
theorem dX5_init_19 : decode cX5_init 19 = .ok (.invokespecial 17, 3) := by decide +kernel
theorem dX5_init_22 : decode cX5_init 22 = .ok (.putfield 20, 3) := by decide +kernel
theorem dX5_init_25 : decode cX5_init 25 = .ok (.aload_n 0, 1) := by decide +kernel
theorem dX5_init_26 : decode cX5_init 26 = .ok (.iconst 0, 1) := by decide +kernel
theorem dX5_init_27 : decode cX5_init 27 = .ok (.putfield 24, 3) := by decide +kernel
theorem dX5_init_30 : decode cX5_init 30 = .ok (.aload_n 0, 1) := by decide +kernel
theorem dX5_init_31 : decode cX5_init 31 = .ok (.iconst 0, 1) := by decide +kernel
theorem dX5_init_32 : decode cX5_init 32 = .ok (.putfield 28, 3) := by decide +kernel
theorem dX5_init_35 : decode cX5_init 35 = .ok (.aload_n 0, 1) := by decide +kernel
theorem dX5_init_36 : decode cX5_init 36 = .ok (.iconst 0, 1) := by decide +kernel
theorem dX5_init_37 : decode cX5_init 37 = .ok (.putfield 31, 3) := by decide +kernel
theorem dX5_init_40 : decode cX5_init 40 = .ok (.return_, 1) := by decide +kernel
theorem dX6_init_0 : decode cX6_init 0 = .ok (.aload_n 0, 1) := by decide +kernel
theorem dX6_init_1 : decode cX6_init 1 = .ok (.invokespecial 3, 3) := by decide +kernel
theorem dX6_init_4 : decode cX6_init 4 = .ok (.aload_n 0, 1) := by decide +kernel
theorem dX6_init_5 : decode cX6_init 5 = .ok (.sipush 200, 3) := by decide +kernel
theorem dX6_init_8 : decode cX6_init 8 = .ok (.newarray .int, 2) := by decide +kernel
theorem dX6_init_10 : decode cX6_init 10 = .ok (.putfield 9, 3) := by decide +kernel
theorem dX6_init_13 : decode cX6_init 13 = .ok (.aload_n 0, 1) := by decide +kernel
theorem dX6_init_14 : decode cX6_init 14 = .ok (.bipush 24, 2) := by decide +kernel
theorem dX6_init_16 : decode cX6_init 16 = .ok (.newarray .int, 2) := by decide +kernel
theorem dX6_init_18 : decode cX6_init 18 = .ok (.putfield 15, 3) := by decide +kernel
theorem dX6_init_21 : decode cX6_init 21 = .ok (.aload_n 0, 1) := by decide +kernel
theorem dX6_init_22 : decode cX6_init 22 = .ok (.bipush 72, 2) := by decide +kernel
theorem dX6_init_24 : decode cX6_init 24 = .ok (.newarray .int, 2) := by decide +kernel
theorem dX6_init_26 : decode cX6_init 26 = .ok (.putfield 18, 3) := by decide +kernel
theorem dX6_init_29 : decode cX6_init 29 = .ok (.aload_n 0, 1) := by decide +kernel
theorem dX6_init_30 : decode cX6_init 30 = .ok (.iconst 0, 1) := by decide +kernel
theorem dX6_init_31 : decode cX6_init 31 = .ok (.putfield 21, 3) := by decide +kernel
theorem dX6_init_34 : decode cX6_init 34 = .ok (.aload_n 0, 1) := by decide +kernel
theorem dX6_init_35 : decode cX6_init 35 = .ok (.iconst 0, 1) := by decide +kernel
theorem dX6_init_36 : decode cX6_init 36 = .ok (.putfield 25, 3) := by decide +kernel
theorem dX6_init_39 : decode cX6_init 39 = .ok (.aload_n 0, 1) := by decide +kernel
theorem dX6_init_40 : decode cX6_init 40 = .ok (.iconst 0, 1) := by decide +kernel
theorem dX6_init_41 : decode cX6_init 41 = .ok (.putfield 28, 3) := by decide +kernel
theorem dX6_init_44 : decode cX6_init 44 = .ok (.return_, 1) := by decide +kernel
theorem dX6_length_0 : decode cX6_length 0 = .ok (.aload_n 0, 1) := by decide +kernel
theorem dX6_length_1 : decode cX6_length 1 = .ok (.getfield 21, 3) := by decide +kernel
theorem dX6_length_4 : decode cX6_length 4 = .ok (.ireturn, 1) := by decide +kernel
theorem dX6_commandCount_0 : decode cX6_commandCount 0 = .ok (.aload_n 0, 1) := by decide +kernel
theorem dX6_commandCount_1 : decode cX6_commandCount 1 = .ok (.getfield 25, 3) := by decide +kernel
theorem dX6_commandCount_4 : decode cX6_commandCount 4 = .ok (.ireturn, 1) := by decide +kernel
theorem dX6_verbOf_0 : decode cX6_verbOf 0 = .ok (.iload_n 1, 1) := by decide +kernel
theorem dX6_verbOf_1 : decode cX6_verbOf 1 = .ok (.ifCond .lt 21, 3) := by decide +kernel
theorem dX6_verbOf_4 : decode cX6_verbOf 4 = .ok (.iload_n 1, 1) := by decide +kernel
theorem dX6_verbOf_5 : decode cX6_verbOf 5 = .ok (.aload_n 0, 1) := by decide +kernel
theorem dX6_verbOf_6 : decode cX6_verbOf 6 = .ok (.getfield 15, 3) := by decide +kernel
theorem dX6_verbOf_9 : decode cX6_verbOf 9 = .ok (.arraylength, 1) := by decide +kernel
theorem dX6_verbOf_10 : decode cX6_verbOf 10 = .ok (.if_icmp .ge 12, 3) := by decide +kernel
theorem dX6_verbOf_13 : decode cX6_verbOf 13 = .ok (.aload_n 0, 1) := by decide +kernel
theorem dX6_verbOf_14 : decode cX6_verbOf 14 = .ok (.getfield 15, 3) := by decide +kernel
theorem dX6_verbOf_17 : decode cX6_verbOf 17 = .ok (.iload_n 1, 1) := by decide +kernel
theorem dX6_verbOf_18 : decode cX6_verbOf 18 = .ok (.iaload, 1) := by decide +kernel
theorem dX6_verbOf_19 : decode cX6_verbOf 19 = .ok (.goto 4, 3) := by decide +kernel
theorem dX6_verbOf_22 : decode cX6_verbOf 22 = .ok (.iconst (-1), 1) := by decide +kernel
theorem dX6_verbOf_23 : decode cX6_verbOf 23 = .ok (.ireturn, 1) := by decide +kernel
theorem dX6_numberOf_0 : decode cX6_numberOf 0 = .ok (.iload_n 1, 1) := by decide +kernel
theorem dX6_numberOf_1 : decode cX6_numberOf 1 = .ok (.iconst 3, 1) := by decide +kernel
theorem dX6_numberOf_2 : decode cX6_numberOf 2 = .ok (.imul, 1) := by decide +kernel
theorem dX6_numberOf_3 : decode cX6_numberOf 3 = .ok (.iload_n 2, 1) := by decide +kernel
theorem dX6_numberOf_4 : decode cX6_numberOf 4 = .ok (.iadd, 1) := by decide +kernel
theorem dX6_numberOf_5 : decode cX6_numberOf 5 = .ok (.istore_n 3, 1) := by decide +kernel
theorem dX6_numberOf_6 : decode cX6_numberOf 6 = .ok (.iload_n 3, 1) := by decide +kernel
theorem dX6_numberOf_7 : decode cX6_numberOf 7 = .ok (.ifCond .lt 21, 3) := by decide +kernel
theorem dX6_numberOf_10 : decode cX6_numberOf 10 = .ok (.iload_n 3, 1) := by decide +kernel
theorem dX6_numberOf_11 : decode cX6_numberOf 11 = .ok (.aload_n 0, 1) := by decide +kernel
theorem dX6_numberOf_12 : decode cX6_numberOf 12 = .ok (.getfield 18, 3) := by decide +kernel
theorem dX6_numberOf_15 : decode cX6_numberOf 15 = .ok (.arraylength, 1) := by decide +kernel
theorem dX6_numberOf_16 : decode cX6_numberOf 16 = .ok (.if_icmp .ge 12, 3) := by decide +kernel
theorem dX6_numberOf_19 : decode cX6_numberOf 19 = .ok (.aload_n 0, 1) := by decide +kernel
theorem dX6_numberOf_20 : decode cX6_numberOf 20 = .ok (.getfield 18, 3) := by decide +kernel
theorem dX6_numberOf_23 : decode cX6_numberOf 23 = .ok (.iload_n 3, 1) := by decide +kernel
theorem dX6_numberOf_24 : decode cX6_numberOf 24 = .ok (.iaload, 1) := by decide +kernel
theorem dX6_numberOf_25 : decode cX6_numberOf 25 = .ok (.goto 4, 3) := by decide +kernel
theorem dX6_numberOf_28 : decode cX6_numberOf 28 = .ok (.iconst (-1), 1) := by decide +kernel
theorem dX6_numberOf_29 : decode cX6_numberOf 29 = .ok (.ireturn, 1) := by decide +kernel
theorem dX6_setNumber_0 : decode cX6_setNumber 0 = .ok (.iload_n 1, 1) := by decide +kernel
theorem dX6_setNumber_1 : decode cX6_setNumber 1 = .ok (.iconst 3, 1) := by decide +kernel
theorem dX6_setNumber_2 : decode cX6_setNumber 2 = .ok (.imul, 1) := by decide +kernel
theorem dX6_setNumber_3 : decode cX6_setNumber 3 = .ok (.iload_n 2, 1) := by decide +kernel
theorem dX6_setNumber_4 : decode cX6_setNumber 4 = .ok (.iadd, 1) := by decide +kernel
theorem dX6_setNumber_5 : decode cX6_setNumber 5 = .ok (.istore 4, 2) := by decide +kernel
theorem dX6_setNumber_7 : decode cX6_setNumber 7 = .ok (.iload 4, 2) := by decide +kernel
theorem dX6_setNumber_9 : decode cX6_setNumber 9 = .ok (.ifCond .lt 21, 3) := by decide +kernel
theorem dX6_setNumber_12 : decode cX6_setNumber 12 = .ok (.iload 4, 2) := by decide +kernel
theorem dX6_setNumber_14 : decode cX6_setNumber 14 = .ok (.aload_n 0, 1) := by decide +kernel
theorem dX6_setNumber_15 : decode cX6_setNumber 15 = .ok (.getfield 18, 3) := by decide +kernel
theorem dX6_setNumber_18 : decode cX6_setNumber 18 = .ok (.arraylength, 1) := by decide +kernel
