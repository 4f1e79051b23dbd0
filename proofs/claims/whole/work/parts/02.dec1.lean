theorem dX6_setNumber_19 : decode cX6_setNumber 19 = .ok (.if_icmp .ge 11, 3) := by decide +kernel
theorem dX6_setNumber_22 : decode cX6_setNumber 22 = .ok (.aload_n 0, 1) := by decide +kernel
theorem dX6_setNumber_23 : decode cX6_setNumber 23 = .ok (.getfield 18, 3) := by decide +kernel
theorem dX6_setNumber_26 : decode cX6_setNumber 26 = .ok (.iload 4, 2) := by decide +kernel
theorem dX6_setNumber_28 : decode cX6_setNumber 28 = .ok (.iload_n 3, 1) := by decide +kernel
theorem dX6_setNumber_29 : decode cX6_setNumber 29 = .ok (.iastore, 1) := by decide +kernel
theorem dX6_setNumber_30 : decode cX6_setNumber 30 = .ok (.return_, 1) := by decide +kernel
theorem dX6_append_0 : decode cX6_append 0 = .ok (.aload_n 0, 1) := by decide +kernel
theorem dX6_append_1 : decode cX6_append 1 = .ok (.getfield 21, 3) := by decide +kernel
theorem dX6_append_4 : decode cX6_append 4 = .ok (.aload_n 0, 1) := by decide +kernel
theorem dX6_append_5 : decode cX6_append 5 = .ok (.getfield 9, 3) := by decide +kernel
theorem dX6_append_8 : decode cX6_append 8 = .ok (.arraylength, 1) := by decide +kernel
theorem dX6_append_9 : decode cX6_append 9 = .ok (.if_icmp .lt 5, 3) := by decide +kernel
theorem dX6_append_12 : decode cX6_append 12 = .ok (.iconst 0, 1) := by decide +kernel
theorem dX6_append_13 : decode cX6_append 13 = .ok (.ireturn, 1) := by decide +kernel
theorem dX6_append_14 : decode cX6_append 14 = .ok (.aload_n 0, 1) := by decide +kernel
theorem dX6_append_15 : decode cX6_append 15 = .ok (.getfield 9, 3) := by decide +kernel
theorem dX6_append_18 : decode cX6_append 18 = .ok (.aload_n 0, 1) := by decide +kernel
theorem dX6_append_19 : decode cX6_append 19 = .ok (.getfield 21, 3) := by decide +kernel
theorem dX6_append_22 : decode cX6_append 22 = .ok (.iload_n 1, 1) := by decide +kernel
theorem dX6_append_23 : decode cX6_append 23 = .ok (.iastore, 1) := by decide +kernel
theorem dX6_append_24 : decode cX6_append 24 = .ok (.aload_n 0, 1) := by decide +kernel
theorem dX6_append_25 : decode cX6_append 25 = .ok (.dup, 1) := by decide +kernel
theorem dX6_append_26 : decode cX6_append 26 = .ok (.getfield 21, 3) := by decide +kernel
theorem dX6_append_29 : decode cX6_append 29 = .ok (.iconst 1, 1) := by decide +kernel
theorem dX6_append_30 : decode cX6_append 30 = .ok (.iadd, 1) := by decide +kernel
theorem dX6_append_31 : decode cX6_append 31 = .ok (.putfield 21, 3) := by decide +kernel
theorem dX6_append_34 : decode cX6_append 34 = .ok (.iconst 1, 1) := by decide +kernel
theorem dX6_append_35 : decode cX6_append 35 = .ok (.ireturn, 1) := by decide +kernel
theorem dX6_wipe_0 : decode cX6_wipe 0 = .ok (.aload_n 0, 1) := by decide +kernel
theorem dX6_wipe_1 : decode cX6_wipe 1 = .ok (.iconst 0, 1) := by decide +kernel
theorem dX6_wipe_2 : decode cX6_wipe 2 = .ok (.putfield 21, 3) := by decide +kernel
theorem dX6_wipe_5 : decode cX6_wipe 5 = .ok (.return_, 1) := by decide +kernel
theorem dX6_read_0 : decode cX6_read 0 = .ok (.aload_n 0, 1) := by decide +kernel
theorem dX6_read_1 : decode cX6_read 1 = .ok (.iconst 0, 1) := by decide +kernel
theorem dX6_read_2 : decode cX6_read 2 = .ok (.putfield 28, 3) := by decide +kernel
theorem dX6_read_5 : decode cX6_read 5 = .ok (.aload_n 0, 1) := by decide +kernel
theorem dX6_read_6 : decode cX6_read 6 = .ok (.iconst 0, 1) := by decide +kernel
theorem dX6_read_7 : decode cX6_read 7 = .ok (.putfield 25, 3) := by decide +kernel
theorem dX6_read_10 : decode cX6_read 10 = .ok (.iconst 0, 1) := by decide +kernel
theorem dX6_read_11 : decode cX6_read 11 = .ok (.istore_n 1, 1) := by decide +kernel
theorem dX6_read_12 : decode cX6_read 12 = .ok (.iload_n 1, 1) := by decide +kernel
theorem dX6_read_13 : decode cX6_read 13 = .ok (.bipush 24, 2) := by decide +kernel
theorem dX6_read_15 : decode cX6_read 15 = .ok (.if_icmp .ge 79, 3) := by decide +kernel
theorem dX6_read_18 : decode cX6_read 18 = .ok (.aload_n 0, 1) := by decide +kernel
theorem dX6_read_19 : decode cX6_read 19 = .ok (.iload_n 1, 1) := by decide +kernel
theorem dX6_read_20 : decode cX6_read 20 = .ok (.invokevirtual 31, 3) := by decide +kernel
theorem dX6_read_23 : decode cX6_read 23 = .ok (.istore_n 2, 1) := by decide +kernel
theorem dX6_read_24 : decode cX6_read 24 = .ok (.iload_n 2, 1) := by decide +kernel
theorem dX6_read_25 : decode cX6_read 25 = .ok (.iconst (-1), 1) := by decide +kernel
theorem dX6_read_26 : decode cX6_read 26 = .ok (.if_icmp .eq 5, 3) := by decide +kernel
theorem dX6_read_29 : decode cX6_read 29 = .ok (.iload_n 2, 1) := by decide +kernel
theorem dX6_read_30 : decode cX6_read 30 = .ok (.ireturn, 1) := by decide +kernel
theorem dX6_read_31 : decode cX6_read 31 = .ok (.aload_n 0, 1) := by decide +kernel
theorem dX6_read_32 : decode cX6_read 32 = .ok (.iload_n 1, 1) := by decide +kernel
theorem dX6_read_33 : decode cX6_read 33 = .ok (.iconst 1, 1) := by decide +kernel
theorem dX6_read_34 : decode cX6_read 34 = .ok (.iadd, 1) := by decide +kernel
theorem dX6_read_35 : decode cX6_read 35 = .ok (.putfield 25, 3) := by decide +kernel
theorem dX6_read_38 : decode cX6_read 38 = .ok (.aload_n 0, 1) := by decide +kernel
theorem dX6_read_39 : decode cX6_read 39 = .ok (.invokevirtual 35, 3) := by decide +kernel
theorem dX6_read_42 : decode cX6_read 42 = .ok (.aload_n 0, 1) := by decide +kernel
theorem dX6_read_43 : decode cX6_read 43 = .ok (.getfield 28, 3) := by decide +kernel
theorem dX6_read_46 : decode cX6_read 46 = .ok (.aload_n 0, 1) := by decide +kernel
theorem dX6_read_47 : decode cX6_read 47 = .ok (.getfield 21, 3) := by decide +kernel
theorem dX6_read_50 : decode cX6_read 50 = .ok (.if_icmp .lt 5, 3) := by decide +kernel
theorem dX6_read_53 : decode cX6_read 53 = .ok (.iconst (-1), 1) := by decide +kernel
theorem dX6_read_54 : decode cX6_read 54 = .ok (.ireturn, 1) := by decide +kernel
theorem dX6_read_55 : decode cX6_read 55 = .ok (.aload_n 0, 1) := by decide +kernel
theorem dX6_read_56 : decode cX6_read 56 = .ok (.invokevirtual 38, 3) := by decide +kernel
theorem dX6_read_59 : decode cX6_read 59 = .ok (.bipush 59, 2) := by decide +kernel
theorem dX6_read_61 : decode cX6_read 61 = .ok (.if_icmp .ne 12, 3) := by decide +kernel
theorem dX6_read_64 : decode cX6_read 64 = .ok (.aload_n 0, 1) := by decide +kernel
theorem dX6_read_65 : decode cX6_read 65 = .ok (.getfield 25, 3) := by decide +kernel
theorem dX6_read_68 : decode cX6_read 68 = .ok (.bipush 24, 2) := by decide +kernel
theorem dX6_read_70 : decode cX6_read 70 = .ok (.if_icmp .ne 8, 3) := by decide +kernel
theorem dX6_read_73 : decode cX6_read 73 = .ok (.aload_n 0, 1) := by decide +kernel
theorem dX6_read_74 : decode cX6_read 74 = .ok (.getfield 28, 3) := by decide +kernel
theorem dX6_read_77 : decode cX6_read 77 = .ok (.ireturn, 1) := by decide +kernel
theorem dX6_read_78 : decode cX6_read 78 = .ok (.aload_n 0, 1) := by decide +kernel
theorem dX6_read_79 : decode cX6_read 79 = .ok (.dup, 1) := by decide +kernel
theorem dX6_read_80 : decode cX6_read 80 = .ok (.getfield 28, 3) := by decide +kernel
theorem dX6_read_83 : decode cX6_read 83 = .ok (.iconst 1, 1) := by decide +kernel
theorem dX6_read_84 : decode cX6_read 84 = .ok (.iadd, 1) := by decide +kernel
theorem dX6_read_85 : decode cX6_read 85 = .ok (.putfield 28, 3) := by decide +kernel
theorem dX6_read_88 : decode cX6_read 88 = .ok (.iinc 1 1, 3) := by decide +kernel
theorem dX6_read_91 : decode cX6_read 91 = .ok (.goto (-79), 3) := by decide +kernel
theorem dX6_read_94 : decode cX6_read 94 = .ok (.aload_n 0, 1) := by decide +kernel
theorem dX6_read_95 : decode cX6_read 95 = .ok (.getfield 28, 3) := by decide +kernel
theorem dX6_read_98 : decode cX6_read 98 = .ok (.ireturn, 1) := by decide +kernel
theorem dX6_readCommand_0 : decode cX6_readCommand 0 = .ok (.aload_n 0, 1) := by decide +kernel
theorem dX6_readCommand_1 : decode cX6_readCommand 1 = .ok (.invokevirtual 35, 3) := by decide +kernel
theorem dX6_readCommand_4 : decode cX6_readCommand 4 = .ok (.aload_n 0, 1) := by decide +kernel
theorem dX6_readCommand_5 : decode cX6_readCommand 5 = .ok (.getfield 28, 3) := by decide +kernel
theorem dX6_readCommand_8 : decode cX6_readCommand 8 = .ok (.istore_n 2, 1) := by decide +kernel
theorem dX6_readCommand_9 : decode cX6_readCommand 9 = .ok (.aload_n 0, 1) := by decide +kernel
theorem dX6_readCommand_10 : decode cX6_readCommand 10 = .ok (.invokevirtual 42, 3) := by decide +kernel
theorem dX6_readCommand_13 : decode cX6_readCommand 13 = .ok (.aload_n 0, 1) := by decide +kernel
theorem dX6_readCommand_14 : decode cX6_readCommand 14 = .ok (.iload_n 2, 1) := by decide +kernel
theorem dX6_readCommand_15 : decode cX6_readCommand 15 = .ok (.invokevirtual 45, 3) := by decide +kernel
theorem dX6_readCommand_18 : decode cX6_readCommand 18 = .ok (.istore_n 3, 1) := by decide +kernel
theorem dX6_readCommand_19 : decode cX6_readCommand 19 = .ok (.iload_n 3, 1) := by decide +kernel
theorem dX6_readCommand_20 : decode cX6_readCommand 20 = .ok (.iconst (-1), 1) := by decide +kernel
theorem dX6_readCommand_21 : decode cX6_readCommand 21 = .ok (.if_icmp .eq 16, 3) := by decide +kernel
theorem dX6_readCommand_24 : decode cX6_readCommand 24 = .ok (.iload_n 1, 1) := by decide +kernel
theorem dX6_readCommand_25 : decode cX6_readCommand 25 = .ok (.ifCond .lt 12, 3) := by decide +kernel
theorem dX6_readCommand_28 : decode cX6_readCommand 28 = .ok (.iload_n 1, 1) := by decide +kernel
theorem dX6_readCommand_29 : decode cX6_readCommand 29 = .ok (.aload_n 0, 1) := by decide +kernel
theorem dX6_readCommand_30 : decode cX6_readCommand 30 = .ok (.getfield 15, 3) := by decide +kernel
theorem dX6_readCommand_33 : decode cX6_readCommand 33 = .ok (.arraylength, 1) := by decide +kernel
theorem dX6_readCommand_34 : decode cX6_readCommand 34 = .ok (.if_icmp .lt 5, 3) := by decide +kernel
theorem dX6_readCommand_37 : decode cX6_readCommand 37 = .ok (.iload_n 2, 1) := by decide +kernel
theorem dX6_readCommand_38 : decode cX6_readCommand 38 = .ok (.ireturn, 1) := by decide +kernel
theorem dX6_readCommand_39 : decode cX6_readCommand 39 = .ok (.aload_n 0, 1) := by decide +kernel
theorem dX6_readCommand_40 : decode cX6_readCommand 40 = .ok (.getfield 15, 3) := by decide +kernel
theorem dX6_readCommand_43 : decode cX6_readCommand 43 = .ok (.iload_n 1, 1) := by decide +kernel
theorem dX6_readCommand_44 : decode cX6_readCommand 44 = .ok (.iload_n 3, 1) := by decide +kernel
theorem dX6_readCommand_45 : decode cX6_readCommand 45 = .ok (.iastore, 1) := by decide +kernel
theorem dX6_readCommand_46 : decode cX6_readCommand 46 = .ok (.iload_n 3, 1) := by decide +kernel
theorem dX6_readCommand_47 : decode cX6_readCommand 47 = .ok (.invokestatic 48, 3) := by decide +kernel
theorem dX6_readCommand_50 : decode cX6_readCommand 50 = .ok (.astore 4, 2) := by decide +kernel
theorem dX6_readCommand_52 : decode cX6_readCommand 52 = .ok (.iconst 0, 1) := by decide +kernel
theorem dX6_readCommand_53 : decode cX6_readCommand 53 = .ok (.istore 5, 2) := by decide +kernel
theorem dX6_readCommand_55 : decode cX6_readCommand 55 = .ok (.iconst 0, 1) := by decide +kernel
theorem dX6_readCommand_56 : decode cX6_readCommand 56 = .ok (.istore 6, 2) := by decide +kernel
theorem dX6_readCommand_58 : decode cX6_readCommand 58 = .ok (.iload 6, 2) := by decide +kernel
theorem dX6_readCommand_60 : decode cX6_readCommand 60 = .ok (.aload 4, 2) := by decide +kernel
theorem dX6_readCommand_62 : decode cX6_readCommand 62 = .ok (.invokevirtual 52, 3) := by decide +kernel
theorem dX6_readCommand_65 : decode cX6_readCommand 65 = .ok (.if_icmp .ge 78, 3) := by decide +kernel
theorem dX6_readCommand_68 : decode cX6_readCommand 68 = .ok (.aload_n 0, 1) := by decide +kernel
theorem dX6_readCommand_69 : decode cX6_readCommand 69 = .ok (.invokevirtual 35, 3) := by decide +kernel
theorem dX6_readCommand_72 : decode cX6_readCommand 72 = .ok (.aload_n 0, 1) := by decide +kernel
theorem dX6_readCommand_73 : decode cX6_readCommand 73 = .ok (.getfield 28, 3) := by decide +kernel
theorem dX6_readCommand_76 : decode cX6_readCommand 76 = .ok (.istore 7, 2) := by decide +kernel
theorem dX6_readCommand_78 : decode cX6_readCommand 78 = .ok (.aload_n 0, 1) := by decide +kernel
theorem dX6_readCommand_79 : decode cX6_readCommand 79 = .ok (.invokevirtual 56, 3) := by decide +kernel
theorem dX6_readCommand_82 : decode cX6_readCommand 82 = .ok (.lstore 8, 2) := by decide +kernel
theorem dX6_readCommand_84 : decode cX6_readCommand 84 = .ok (.lload 8, 2) := by decide +kernel
theorem dX6_readCommand_86 : decode cX6_readCommand 86 = .ok (.aload 4, 2) := by decide +kernel
theorem dX6_readCommand_88 : decode cX6_readCommand 88 = .ok (.iload 6, 2) := by decide +kernel
theorem dX6_readCommand_90 : decode cX6_readCommand 90 = .ok (.invokevirtual 60, 3) := by decide +kernel
theorem dX6_readCommand_93 : decode cX6_readCommand 93 = .ok (.iload 5, 2) := by decide +kernel
theorem dX6_readCommand_95 : decode cX6_readCommand 95 = .ok (.invokestatic 64, 3) := by decide +kernel
theorem dX6_readCommand_98 : decode cX6_readCommand 98 = .ok (.i2l, 1) := by decide +kernel
theorem dX6_readCommand_99 : decode cX6_readCommand 99 = .ok (.lcmp, 1) := by decide +kernel
theorem dX6_readCommand_100 : decode cX6_readCommand 100 = .ok (.ifCond .lt 20, 3) := by decide +kernel
theorem dX6_readCommand_103 : decode cX6_readCommand 103 = .ok (.lload 8, 2) := by decide +kernel
theorem dX6_readCommand_105 : decode cX6_readCommand 105 = .ok (.aload 4, 2) := by decide +kernel
theorem dX6_readCommand_107 : decode cX6_readCommand 107 = .ok (.iload 6, 2) := by decide +kernel
theorem dX6_readCommand_109 : decode cX6_readCommand 109 = .ok (.invokevirtual 60, 3) := by decide +kernel
theorem dX6_readCommand_112 : decode cX6_readCommand 112 = .ok (.invokestatic 68, 3) := by decide +kernel
theorem dX6_readCommand_115 : decode cX6_readCommand 115 = .ok (.i2l, 1) := by decide +kernel
theorem dX6_readCommand_116 : decode cX6_readCommand 116 = .ok (.lcmp, 1) := by decide +kernel
theorem dX6_readCommand_117 : decode cX6_readCommand 117 = .ok (.ifCond .le 6, 3) := by decide +kernel
theorem dX6_readCommand_120 : decode cX6_readCommand 120 = .ok (.iload 7, 2) := by decide +kernel
theorem dX6_readCommand_122 : decode cX6_readCommand 122 = .ok (.ireturn, 1) := by decide +kernel
theorem dX6_readCommand_123 : decode cX6_readCommand 123 = .ok (.lload 8, 2) := by decide +kernel
theorem dX6_readCommand_125 : decode cX6_readCommand 125 = .ok (.l2i, 1) := by decide +kernel
theorem dX6_readCommand_126 : decode cX6_readCommand 126 = .ok (.istore 5, 2) := by decide +kernel
theorem dX6_readCommand_128 : decode cX6_readCommand 128 = .ok (.aload_n 0, 1) := by decide +kernel
theorem dX6_readCommand_129 : decode cX6_readCommand 129 = .ok (.iload_n 1, 1) := by decide +kernel
theorem dX6_readCommand_130 : decode cX6_readCommand 130 = .ok (.iload 6, 2) := by decide +kernel
theorem dX6_readCommand_132 : decode cX6_readCommand 132 = .ok (.iload 5, 2) := by decide +kernel
theorem dX6_readCommand_134 : decode cX6_readCommand 134 = .ok (.invokevirtual 71, 3) := by decide +kernel
theorem dX6_readCommand_137 : decode cX6_readCommand 137 = .ok (.iinc 6 1, 3) := by decide +kernel
theorem dX6_readCommand_140 : decode cX6_readCommand 140 = .ok (.goto (-82), 3) := by decide +kernel
theorem dX6_readCommand_143 : decode cX6_readCommand 143 = .ok (.iconst (-1), 1) := by decide +kernel
theorem dX6_readCommand_144 : decode cX6_readCommand 144 = .ok (.ireturn, 1) := by decide +kernel
theorem dX6_byteHere_0 : decode cX6_byteHere 0 = .ok (.aload_n 0, 1) := by decide +kernel
theorem dX6_byteHere_1 : decode cX6_byteHere 1 = .ok (.getfield 28, 3) := by decide +kernel
theorem dX6_byteHere_4 : decode cX6_byteHere 4 = .ok (.ifCond .lt 38, 3) := by decide +kernel
theorem dX6_byteHere_7 : decode cX6_byteHere 7 = .ok (.aload_n 0, 1) := by decide +kernel
theorem dX6_byteHere_8 : decode cX6_byteHere 8 = .ok (.getfield 28, 3) := by decide +kernel
theorem dX6_byteHere_11 : decode cX6_byteHere 11 = .ok (.aload_n 0, 1) := by decide +kernel
theorem dX6_byteHere_12 : decode cX6_byteHere 12 = .ok (.getfield 21, 3) := by decide +kernel
theorem dX6_byteHere_15 : decode cX6_byteHere 15 = .ok (.if_icmp .ge 27, 3) := by decide +kernel
theorem dX6_byteHere_18 : decode cX6_byteHere 18 = .ok (.aload_n 0, 1) := by decide +kernel
theorem dX6_byteHere_19 : decode cX6_byteHere 19 = .ok (.getfield 28, 3) := by decide +kernel
theorem dX6_byteHere_22 : decode cX6_byteHere 22 = .ok (.aload_n 0, 1) := by decide +kernel
theorem dX6_byteHere_23 : decode cX6_byteHere 23 = .ok (.getfield 9, 3) := by decide +kernel
theorem dX6_byteHere_26 : decode cX6_byteHere 26 = .ok (.arraylength, 1) := by decide +kernel
theorem dX6_byteHere_27 : decode cX6_byteHere 27 = .ok (.if_icmp .ge 15, 3) := by decide +kernel
theorem dX6_byteHere_30 : decode cX6_byteHere 30 = .ok (.aload_n 0, 1) := by decide +kernel
theorem dX6_byteHere_31 : decode cX6_byteHere 31 = .ok (.getfield 9, 3) := by decide +kernel
theorem dX6_byteHere_34 : decode cX6_byteHere 34 = .ok (.aload_n 0, 1) := by decide +kernel
theorem dX6_byteHere_35 : decode cX6_byteHere 35 = .ok (.getfield 28, 3) := by decide +kernel
theorem dX6_byteHere_38 : decode cX6_byteHere 38 = .ok (.iaload, 1) := by decide +kernel
theorem dX6_byteHere_39 : decode cX6_byteHere 39 = .ok (.goto 4, 3) := by decide +kernel
theorem dX6_byteHere_42 : decode cX6_byteHere 42 = .ok (.iconst (-1), 1) := by decide +kernel
theorem dX6_byteHere_43 : decode cX6_byteHere 43 = .ok (.ireturn, 1) := by decide +kernel
theorem dX6_skipBlanks_0 : decode cX6_skipBlanks 0 = .ok (.iconst 0, 1) := by decide +kernel
theorem dX6_skipBlanks_1 : decode cX6_skipBlanks 1 = .ok (.istore_n 1, 1) := by decide +kernel
theorem dX6_skipBlanks_2 : decode cX6_skipBlanks 2 = .ok (.iload_n 1, 1) := by decide +kernel
theorem dX6_skipBlanks_3 : decode cX6_skipBlanks 3 = .ok (.sipush 200, 3) := by decide +kernel
theorem dX6_skipBlanks_6 : decode cX6_skipBlanks 6 = .ok (.if_icmp .ge 28, 3) := by decide +kernel
theorem dX6_skipBlanks_9 : decode cX6_skipBlanks 9 = .ok (.aload_n 0, 1) := by decide +kernel
theorem dX6_skipBlanks_10 : decode cX6_skipBlanks 10 = .ok (.invokevirtual 38, 3) := by decide +kernel
theorem dX6_skipBlanks_13 : decode cX6_skipBlanks 13 = .ok (.bipush 32, 2) := by decide +kernel
theorem dX6_skipBlanks_15 : decode cX6_skipBlanks 15 = .ok (.if_icmp .ne 19, 3) := by decide +kernel
theorem dX6_skipBlanks_18 : decode cX6_skipBlanks 18 = .ok (.aload_n 0, 1) := by decide +kernel
theorem dX6_skipBlanks_19 : decode cX6_skipBlanks 19 = .ok (.dup, 1) := by decide +kernel
theorem dX6_skipBlanks_20 : decode cX6_skipBlanks 20 = .ok (.getfield 28, 3) := by decide +kernel
theorem dX6_skipBlanks_23 : decode cX6_skipBlanks 23 = .ok (.iconst 1, 1) := by decide +kernel
theorem dX6_skipBlanks_24 : decode cX6_skipBlanks 24 = .ok (.iadd, 1) := by decide +kernel
theorem dX6_skipBlanks_25 : decode cX6_skipBlanks 25 = .ok (.putfield 28, 3) := by decide +kernel
theorem dX6_skipBlanks_28 : decode cX6_skipBlanks 28 = .ok (.iinc 1 1, 3) := by decide +kernel
theorem dX6_skipBlanks_31 : decode cX6_skipBlanks 31 = .ok (.goto (-29), 3) := by decide +kernel
theorem dX6_skipBlanks_34 : decode cX6_skipBlanks 34 = .ok (.return_, 1) := by decide +kernel
theorem dX6_skipWord_0 : decode cX6_skipWord 0 = .ok (.iconst 0, 1) := by decide +kernel
theorem dX6_skipWord_1 : decode cX6_skipWord 1 = .ok (.istore_n 1, 1) := by decide +kernel
theorem dX6_skipWord_2 : decode cX6_skipWord 2 = .ok (.iload_n 1, 1) := by decide +kernel
theorem dX6_skipWord_3 : decode cX6_skipWord 3 = .ok (.sipush 200, 3) := by decide +kernel
theorem dX6_skipWord_6 : decode cX6_skipWord 6 = .ok (.if_icmp .ge 37, 3) := by decide +kernel
theorem dX6_skipWord_9 : decode cX6_skipWord 9 = .ok (.aload_n 0, 1) := by decide +kernel
theorem dX6_skipWord_10 : decode cX6_skipWord 10 = .ok (.invokevirtual 38, 3) := by decide +kernel
theorem dX6_skipWord_13 : decode cX6_skipWord 13 = .ok (.bipush 97, 2) := by decide +kernel
theorem dX6_skipWord_15 : decode cX6_skipWord 15 = .ok (.if_icmp .lt 28, 3) := by decide +kernel
theorem dX6_skipWord_18 : decode cX6_skipWord 18 = .ok (.aload_n 0, 1) := by decide +kernel
theorem dX6_skipWord_19 : decode cX6_skipWord 19 = .ok (.invokevirtual 38, 3) := by decide +kernel
theorem dX6_skipWord_22 : decode cX6_skipWord 22 = .ok (.bipush 122, 2) := by decide +kernel
theorem dX6_skipWord_24 : decode cX6_skipWord 24 = .ok (.if_icmp .gt 19, 3) := by decide +kernel
theorem dX6_skipWord_27 : decode cX6_skipWord 27 = .ok (.aload_n 0, 1) := by decide +kernel
theorem dX6_skipWord_28 : decode cX6_skipWord 28 = .ok (.dup, 1) := by decide +kernel
theorem dX6_skipWord_29 : decode cX6_skipWord 29 = .ok (.getfield 28, 3) := by decide +kernel
theorem dX6_skipWord_32 : decode cX6_skipWord 32 = .ok (.iconst 1, 1) := by decide +kernel
theorem dX6_skipWord_33 : decode cX6_skipWord 33 = .ok (.iadd, 1) := by decide +kernel
theorem dX6_skipWord_34 : decode cX6_skipWord 34 = .ok (.putfield 28, 3) := by decide +kernel
theorem dX6_skipWord_37 : decode cX6_skipWord 37 = .ok (.iinc 1 1, 3) := by decide +kernel
theorem dX6_skipWord_40 : decode cX6_skipWord 40 = .ok (.goto (-38), 3) := by decide +kernel
theorem dX6_skipWord_43 : decode cX6_skipWord 43 = .ok (.return_, 1) := by decide +kernel
theorem dX6_readNumber_0 : decode cX6_readNumber 0 = .ok (.lconst 0, 1) := by decide +kernel
theorem dX6_readNumber_1 : decode cX6_readNumber 1 = .ok (.lstore_n 1, 1) := by decide +kernel
theorem dX6_readNumber_2 : decode cX6_readNumber 2 = .ok (.iconst 0, 1) := by decide +kernel
theorem dX6_readNumber_3 : decode cX6_readNumber 3 = .ok (.istore_n 3, 1) := by decide +kernel
theorem dX6_readNumber_4 : decode cX6_readNumber 4 = .ok (.iconst 0, 1) := by decide +kernel
theorem dX6_readNumber_5 : decode cX6_readNumber 5 = .ok (.istore 4, 2) := by decide +kernel
theorem dX6_readNumber_7 : decode cX6_readNumber 7 = .ok (.iload 4, 2) := by decide +kernel
theorem dX6_readNumber_9 : decode cX6_readNumber 9 = .ok (.sipush 200, 3) := by decide +kernel
theorem dX6_readNumber_12 : decode cX6_readNumber 12 = .ok (.if_icmp .ge 61, 3) := by decide +kernel
theorem dX6_readNumber_15 : decode cX6_readNumber 15 = .ok (.aload_n 0, 1) := by decide +kernel
theorem dX6_readNumber_16 : decode cX6_readNumber 16 = .ok (.invokevirtual 38, 3) := by decide +kernel
theorem dX6_readNumber_19 : decode cX6_readNumber 19 = .ok (.bipush 48, 2) := by decide +kernel
theorem dX6_readNumber_21 : decode cX6_readNumber 21 = .ok (.if_icmp .lt 52, 3) := by decide +kernel
theorem dX6_readNumber_24 : decode cX6_readNumber 24 = .ok (.aload_n 0, 1) := by decide +kernel
theorem dX6_readNumber_25 : decode cX6_readNumber 25 = .ok (.invokevirtual 38, 3) := by decide +kernel
theorem dX6_readNumber_28 : decode cX6_readNumber 28 = .ok (.bipush 57, 2) := by decide +kernel
theorem dX6_readNumber_30 : decode cX6_readNumber 30 = .ok (.if_icmp .gt 43, 3) := by decide +kernel
theorem dX6_readNumber_33 : decode cX6_readNumber 33 = .ok (.iload_n 3, 1) := by decide +kernel
theorem dX6_readNumber_34 : decode cX6_readNumber 34 = .ok (.bipush 10, 2) := by decide +kernel
theorem dX6_readNumber_36 : decode cX6_readNumber 36 = .ok (.if_icmp .ge 18, 3) := by decide +kernel
theorem dX6_readNumber_39 : decode cX6_readNumber 39 = .ok (.lload_n 1, 1) := by decide +kernel
theorem dX6_readNumber_40 : decode cX6_readNumber 40 = .ok (.ldc2_w 75, 3) := by decide +kernel
theorem dX6_readNumber_43 : decode cX6_readNumber 43 = .ok (.lmul, 1) := by decide +kernel
theorem dX6_readNumber_44 : decode cX6_readNumber 44 = .ok (.aload_n 0, 1) := by decide +kernel
theorem dX6_readNumber_45 : decode cX6_readNumber 45 = .ok (.invokevirtual 38, 3) := by decide +kernel
theorem dX6_readNumber_48 : decode cX6_readNumber 48 = .ok (.bipush 48, 2) := by decide +kernel
theorem dX6_readNumber_50 : decode cX6_readNumber 50 = .ok (.isub, 1) := by decide +kernel
theorem dX6_readNumber_51 : decode cX6_readNumber 51 = .ok (.i2l, 1) := by decide +kernel
theorem dX6_readNumber_52 : decode cX6_readNumber 52 = .ok (.ladd, 1) := by decide +kernel
theorem dX6_readNumber_53 : decode cX6_readNumber 53 = .ok (.lstore_n 1, 1) := by decide +kernel
theorem dX6_readNumber_54 : decode cX6_readNumber 54 = .ok (.iinc 3 1, 3) := by decide +kernel
theorem dX6_readNumber_57 : decode cX6_readNumber 57 = .ok (.aload_n 0, 1) := by decide +kernel
theorem dX6_readNumber_58 : decode cX6_readNumber 58 = .ok (.dup, 1) := by decide +kernel
theorem dX6_readNumber_59 : decode cX6_readNumber 59 = .ok (.getfield 28, 3) := by decide +kernel
theorem dX6_readNumber_62 : decode cX6_readNumber 62 = .ok (.iconst 1, 1) := by decide +kernel
theorem dX6_readNumber_63 : decode cX6_readNumber 63 = .ok (.iadd, 1) := by decide +kernel
theorem dX6_readNumber_64 : decode cX6_readNumber 64 = .ok (.putfield 28, 3) := by decide +kernel
theorem dX6_readNumber_67 : decode cX6_readNumber 67 = .ok (.iinc 4 1, 3) := by decide +kernel
theorem dX6_readNumber_70 : decode cX6_readNumber 70 = .ok (.goto (-63), 3) := by decide +kernel
theorem dX6_readNumber_73 : decode cX6_readNumber 73 = .ok (.iload_n 3, 1) := by decide +kernel
theorem dX6_readNumber_74 : decode cX6_readNumber 74 = .ok (.ifCond .eq 9, 3) := by decide +kernel
theorem dX6_readNumber_77 : decode cX6_readNumber 77 = .ok (.iload_n 3, 1) := by decide +kernel
theorem dX6_readNumber_78 : decode cX6_readNumber 78 = .ok (.bipush 10, 2) := by decide +kernel
theorem dX6_readNumber_80 : decode cX6_readNumber 80 = .ok (.if_icmp .le 9, 3) := by decide +kernel
theorem dX6_readNumber_83 : decode cX6_readNumber 83 = .ok (.ldc2_w 77, 3) := by decide +kernel
theorem dX6_readNumber_86 : decode cX6_readNumber 86 = .ok (.goto 4, 3) := by decide +kernel
theorem dX6_readNumber_89 : decode cX6_readNumber 89 = .ok (.lload_n 1, 1) := by decide +kernel
theorem dX6_readNumber_90 : decode cX6_readNumber 90 = .ok (.lreturn, 1) := by decide +kernel
theorem dX6_verbFrom_0 : decode cX6_verbFrom 0 = .ok (.iconst 0, 1) := by decide +kernel
theorem dX6_verbFrom_1 : decode cX6_verbFrom 1 = .ok (.istore_n 2, 1) := by decide +kernel
theorem dX6_verbFrom_2 : decode cX6_verbFrom 2 = .ok (.iload_n 2, 1) := by decide +kernel
theorem dX6_verbFrom_3 : decode cX6_verbFrom 3 = .ok (.bipush 8, 2) := by decide +kernel
theorem dX6_verbFrom_5 : decode cX6_verbFrom 5 = .ok (.if_icmp .ge 23, 3) := by decide +kernel
theorem dX6_verbFrom_8 : decode cX6_verbFrom 8 = .ok (.aload_n 0, 1) := by decide +kernel
theorem dX6_verbFrom_9 : decode cX6_verbFrom 9 = .ok (.iload_n 2, 1) := by decide +kernel
theorem dX6_verbFrom_10 : decode cX6_verbFrom 10 = .ok (.invokestatic 79, 3) := by decide +kernel
theorem dX6_verbFrom_13 : decode cX6_verbFrom 13 = .ok (.iload_n 1, 1) := by decide +kernel
theorem dX6_verbFrom_14 : decode cX6_verbFrom 14 = .ok (.invokevirtual 82, 3) := by decide +kernel
theorem dX6_verbFrom_17 : decode cX6_verbFrom 17 = .ok (.ifCond .eq 5, 3) := by decide +kernel
theorem dX6_verbFrom_20 : decode cX6_verbFrom 20 = .ok (.iload_n 2, 1) := by decide +kernel
theorem dX6_verbFrom_21 : decode cX6_verbFrom 21 = .ok (.ireturn, 1) := by decide +kernel
theorem dX6_verbFrom_22 : decode cX6_verbFrom 22 = .ok (.iinc 2 1, 3) := by decide +kernel
theorem dX6_verbFrom_25 : decode cX6_verbFrom 25 = .ok (.goto (-23), 3) := by decide +kernel
theorem dX6_verbFrom_28 : decode cX6_verbFrom 28 = .ok (.iconst (-1), 1) := by decide +kernel
theorem dX6_verbFrom_29 : decode cX6_verbFrom 29 = .ok (.ireturn, 1) := by decide +kernel
theorem dX6_isWord_0 : decode cX6_isWord 0 = .ok (.iload_n 2, 1) := by decide +kernel
theorem dX6_isWord_1 : decode cX6_isWord 1 = .ok (.ifCond .lt 16, 3) := by decide +kernel
theorem dX6_isWord_4 : decode cX6_isWord 4 = .ok (.aload_n 0, 1) := by decide +kernel
theorem dX6_isWord_5 : decode cX6_isWord 5 = .ok (.getfield 28, 3) := by decide +kernel
theorem dX6_isWord_8 : decode cX6_isWord 8 = .ok (.iload_n 2, 1) := by decide +kernel
theorem dX6_isWord_9 : decode cX6_isWord 9 = .ok (.isub, 1) := by decide +kernel
theorem dX6_isWord_10 : decode cX6_isWord 10 = .ok (.aload_n 1, 1) := by decide +kernel
theorem dX6_isWord_11 : decode cX6_isWord 11 = .ok (.invokevirtual 52, 3) := by decide +kernel
theorem dX6_isWord_14 : decode cX6_isWord 14 = .ok (.if_icmp .eq 5, 3) := by decide +kernel
theorem dX6_isWord_17 : decode cX6_isWord 17 = .ok (.iconst 0, 1) := by decide +kernel
theorem dX6_isWord_18 : decode cX6_isWord 18 = .ok (.ireturn, 1) := by decide +kernel
theorem dX6_isWord_19 : decode cX6_isWord 19 = .ok (.iconst 0, 1) := by decide +kernel
theorem dX6_isWord_20 : decode cX6_isWord 20 = .ok (.istore_n 3, 1) := by decide +kernel
theorem dX6_isWord_21 : decode cX6_isWord 21 = .ok (.iload_n 3, 1) := by decide +kernel
theorem dX6_isWord_22 : decode cX6_isWord 22 = .ok (.aload_n 1, 1) := by decide +kernel
theorem dX6_isWord_23 : decode cX6_isWord 23 = .ok (.invokevirtual 52, 3) := by decide +kernel
theorem dX6_isWord_26 : decode cX6_isWord 26 = .ok (.if_icmp .ge 38, 3) := by decide +kernel
theorem dX6_isWord_29 : decode cX6_isWord 29 = .ok (.iload_n 2, 1) := by decide +kernel
theorem dX6_isWord_30 : decode cX6_isWord 30 = .ok (.iload_n 3, 1) := by decide +kernel
theorem dX6_isWord_31 : decode cX6_isWord 31 = .ok (.iadd, 1) := by decide +kernel
theorem dX6_isWord_32 : decode cX6_isWord 32 = .ok (.aload_n 0, 1) := by decide +kernel
theorem dX6_isWord_33 : decode cX6_isWord 33 = .ok (.getfield 9, 3) := by decide +kernel
theorem dX6_isWord_36 : decode cX6_isWord 36 = .ok (.arraylength, 1) := by decide +kernel
theorem dX6_isWord_37 : decode cX6_isWord 37 = .ok (.if_icmp .ge 27, 3) := by decide +kernel
theorem dX6_isWord_40 : decode cX6_isWord 40 = .ok (.aload_n 0, 1) := by decide +kernel
theorem dX6_isWord_41 : decode cX6_isWord 41 = .ok (.getfield 9, 3) := by decide +kernel
theorem dX6_isWord_44 : decode cX6_isWord 44 = .ok (.iload_n 2, 1) := by decide +kernel
theorem dX6_isWord_45 : decode cX6_isWord 45 = .ok (.iload_n 3, 1) := by decide +kernel
theorem dX6_isWord_46 : decode cX6_isWord 46 = .ok (.iadd, 1) := by decide +kernel
theorem dX6_isWord_47 : decode cX6_isWord 47 = .ok (.iaload, 1) := by decide +kernel
theorem dX6_isWord_48 : decode cX6_isWord 48 = .ok (.aload_n 1, 1) := by decide +kernel
theorem dX6_isWord_49 : decode cX6_isWord 49 = .ok (.iload_n 3, 1) := by decide +kernel
theorem dX6_isWord_50 : decode cX6_isWord 50 = .ok (.invokevirtual 60, 3) := by decide +kernel
theorem dX6_isWord_53 : decode cX6_isWord 53 = .ok (.if_icmp .eq 5, 3) := by decide +kernel
theorem dX6_isWord_56 : decode cX6_isWord 56 = .ok (.iconst 0, 1) := by decide +kernel
theorem dX6_isWord_57 : decode cX6_isWord 57 = .ok (.ireturn, 1) := by decide +kernel
theorem dX6_isWord_58 : decode cX6_isWord 58 = .ok (.iinc 3 1, 3) := by decide +kernel
theorem dX6_isWord_61 : decode cX6_isWord 61 = .ok (.goto (-40), 3) := by decide +kernel
theorem dX6_isWord_64 : decode cX6_isWord 64 = .ok (.iconst 1, 1) := by decide +kernel
theorem dX6_isWord_65 : decode cX6_isWord 65 = .ok (.ireturn, 1) := by decide +kernel
theorem dX6_wordOf_0 : decode cX6_wordOf 0 = .ok (.iload_n 0, 1) := by decide +kernel
theorem dX6_wordOf_1 : decode cX6_wordOf 1 = .ok (.tableswitch 64 0 6 #[43, 46, 49, 52, 55, 58, 61], 43) := by decide +kernel
theorem dX6_wordOf_44 : decode cX6_wordOf 44 = .ok (.ldc 86, 2) := by decide +kernel
theorem dX6_wordOf_46 : decode cX6_wordOf 46 = .ok (.areturn, 1) := by decide +kernel
theorem dX6_wordOf_47 : decode cX6_wordOf 47 = .ok (.ldc 88, 2) := by decide +kernel
theorem dX6_wordOf_49 : decode cX6_wordOf 49 = .ok (.areturn, 1) := by decide +kernel
theorem dX6_wordOf_50 : decode cX6_wordOf 50 = .ok (.ldc 90, 2) := by decide +kernel
theorem dX6_wordOf_52 : decode cX6_wordOf 52 = .ok (.areturn, 1) := by decide +kernel
theorem dX6_wordOf_53 : decode cX6_wordOf 53 = .ok (.ldc 92, 2) := by decide +kernel
theorem dX6_wordOf_55 : decode cX6_wordOf 55 = .ok (.areturn, 1) := by decide +kernel
theorem dX6_wordOf_56 : decode cX6_wordOf 56 = .ok (.ldc 94, 2) := by decide +kernel
theorem dX6_wordOf_58 : decode cX6_wordOf 58 = .ok (.areturn, 1) := by decide +kernel
theorem dX6_wordOf_59 : decode cX6_wordOf 59 = .ok (.ldc 96, 2) := by decide +kernel
theorem dX6_wordOf_61 : decode cX6_wordOf 61 = .ok (.areturn, 1) := by decide +kernel
theorem dX6_wordOf_62 : decode cX6_wordOf 62 = .ok (.ldc 98, 2) := by decide +kernel
theorem dX6_wordOf_64 : decode cX6_wordOf 64 = .ok (.areturn, 1) := by decide +kernel
theorem dX6_wordOf_65 : decode cX6_wordOf 65 = .ok (.ldc 100, 2) := by decide +kernel
theorem dX6_wordOf_67 : decode cX6_wordOf 67 = .ok (.areturn, 1) := by decide +kernel
theorem dX6_kindsOf_0 : decode cX6_kindsOf 0 = .ok (.iload_n 0, 1) := by decide +kernel
theorem dX6_kindsOf_1 : decode cX6_kindsOf 1 = .ok (.tableswitch 58 0 6 #[43, 46, 49, 52, 55, 49, 55], 43) := by decide +kernel
theorem dX6_kindsOf_44 : decode cX6_kindsOf 44 = .ok (.ldc 102, 2) := by decide +kernel
theorem dX6_kindsOf_46 : decode cX6_kindsOf 46 = .ok (.areturn, 1) := by decide +kernel
theorem dX6_kindsOf_47 : decode cX6_kindsOf 47 = .ok (.ldc 104, 2) := by decide +kernel
theorem dX6_kindsOf_49 : decode cX6_kindsOf 49 = .ok (.areturn, 1) := by decide +kernel
theorem dX6_kindsOf_50 : decode cX6_kindsOf 50 = .ok (.ldc 106, 2) := by decide +kernel
theorem dX6_kindsOf_52 : decode cX6_kindsOf 52 = .ok (.areturn, 1) := by decide +kernel
theorem dX6_kindsOf_53 : decode cX6_kindsOf 53 = .ok (.ldc 108, 2) := by decide +kernel
theorem dX6_kindsOf_55 : decode cX6_kindsOf 55 = .ok (.areturn, 1) := by decide +kernel
theorem dX6_kindsOf_56 : decode cX6_kindsOf 56 = .ok (.ldc 110, 2) := by decide +kernel
theorem dX6_kindsOf_58 : decode cX6_kindsOf 58 = .ok (.areturn, 1) := by decide +kernel
theorem dX6_kindsOf_59 : decode cX6_kindsOf 59 = .ok (.ldc 112, 2) := by decide +kernel
theorem dX6_kindsOf_61 : decode cX6_kindsOf 61 = .ok (.areturn, 1) := by decide +kernel
theorem dX6_lowest_0 : decode cX6_lowest 0 = .ok (.iload_n 0, 1) := by decide +kernel
theorem dX6_lowest_1 : decode cX6_lowest 1 = .ok (.lookupswitch 39 #[(65, 35), (66, 37), (78, 35)], 35) := by decide +kernel
theorem dX6_lowest_36 : decode cX6_lowest 36 = .ok (.iconst 1, 1) := by decide +kernel
theorem dX6_lowest_37 : decode cX6_lowest 37 = .ok (.ireturn, 1) := by decide +kernel
theorem dX6_lowest_38 : decode cX6_lowest 38 = .ok (.iload_n 1, 1) := by decide +kernel
theorem dX6_lowest_39 : decode cX6_lowest 39 = .ok (.ireturn, 1) := by decide +kernel
theorem dX6_lowest_40 : decode cX6_lowest 40 = .ok (.iconst 0, 1) := by decide +kernel
theorem dX6_lowest_41 : decode cX6_lowest 41 = .ok (.ireturn, 1) := by decide +kernel
theorem dX6_highest_0 : decode cX6_highest 0 = .ok (.iload_n 0, 1) := by decide +kernel
theorem dX6_highest_1 : decode cX6_highest 1 = .ok (.lookupswitch 45 #[(78, 41), (80, 35), (88, 38)], 35) := by decide +kernel
theorem dX6_highest_36 : decode cX6_highest 36 = .ok (.bipush 9, 2) := by decide +kernel
theorem dX6_highest_38 : decode cX6_highest 38 = .ok (.ireturn, 1) := by decide +kernel
theorem dX6_highest_39 : decode cX6_highest 39 = .ok (.bipush 7, 2) := by decide +kernel
theorem dX6_highest_41 : decode cX6_highest 41 = .ok (.ireturn, 1) := by decide +kernel
theorem dX6_highest_42 : decode cX6_highest 42 = .ok (.sipush 999, 3) := by decide +kernel
theorem dX6_highest_45 : decode cX6_highest 45 = .ok (.ireturn, 1) := by decide +kernel
theorem dX6_highest_46 : decode cX6_highest 46 = .ok (.ldc 114, 2) := by decide +kernel
theorem dX6_highest_48 : decode cX6_highest 48 = .ok (.ireturn, 1) := by decide +kernel
theorem dX7_init_0 : decode cX7_init 0 = .ok (.aload_n 0, 1) := by decide +kernel
theorem dX7_init_1 : decode cX7_init 1 = .ok (.invokespecial 3, 3) := by decide +kernel
theorem dX7_init_4 : decode cX7_init 4 = .ok (.aload_n 0, 1) := by decide +kernel
theorem dX7_init_5 : decode cX7_init 5 = .ok (.new 9, 3) := by decide +kernel
theorem dX7_init_8 : decode cX7_init 8 = .ok (.dup, 1) := by decide +kernel
theorem dX7_init_9 : decode cX7_init 9 = .ok (.invokespecial 11, 3) := by decide +kernel
theorem dX7_init_12 : decode cX7_init 12 = .ok (.putfield 12, 3) := by decide +kernel
theorem dX7_init_15 : decode cX7_init 15 = .ok (.aload_n 0, 1) := by decide +kernel
theorem dX7_init_16 : decode cX7_init 16 = .ok (.new 16, 3) := by decide +kernel
theorem dX7_init_19 : decode cX7_init 19 = .ok (.dup, 1) := by decide +kernel
theorem dX7_init_20 : decode cX7_init 20 = .ok (.invokespecial 18, 3) := by decide +kernel
theorem dX7_init_23 : decode cX7_init 23 = .ok (.putfield 19, 3) := by decide +kernel
theorem dX7_init_26 : decode cX7_init 26 = .ok (.aload_n 0, 1) := by decide +kernel
theorem dX7_init_27 : decode cX7_init 27 = .ok (.new 23, 3) := by decide +kernel
theorem dX7_init_30 : decode cX7_init 30 = .ok (.dup, 1) := by decide +kernel
theorem dX7_init_31 : decode cX7_init 31 = .ok (.invokespecial 25, 3) := by decide +kernel
theorem dX7_init_34 : decode cX7_init 34 = .ok (.putfield 26, 3) := by decide +kernel
theorem dX7_init_37 : decode cX7_init 37 = .ok (.aload_n 0, 1) := by decide +kernel
theorem dX7_init_38 : decode cX7_init 38 = .ok (.new 30, 3) := by decide +kernel
theorem dX7_init_41 : decode cX7_init 41 = .ok (.dup, 1) := by decide +kernel
theorem dX7_init_42 : decode cX7_init 42 = .ok (.bipush 12, 2) := by decide +kernel
theorem dX7_init_44 : decode cX7_init 44 = .ok (.invokespecial 32, 3) := by decide +kernel
theorem dX7_init_47 : decode cX7_init 47 = .ok (.putfield 35, 3) := by decide +kernel
theorem dX7_init_50 : decode cX7_init 50 = .ok (.aload_n 0, 1) := by decide +kernel
theorem dX7_init_51 : decode cX7_init 51 = .ok (.new 39, 3) := by decide +kernel
theorem dX7_init_54 : decode cX7_init 54 = .ok (.dup, 1) := by decide +kernel
theorem dX7_init_55 : decode cX7_init 55 = .ok (.invokespecial 41, 3) := by decide +kernel
theorem dX7_init_58 : decode cX7_init 58 = .ok (.putfield 42, 3) := by decide +kernel
theorem dX7_init_61 : decode cX7_init 61 = .ok (.aload_n 0, 1) := by decide +kernel
theorem dX7_init_62 : decode cX7_init 62 = .ok (.new 46, 3) := by decide +kernel
theorem dX7_init_65 : decode cX7_init 65 = .ok (.dup, 1) := by decide +kernel
theorem dX7_init_66 : decode cX7_init 66 = .ok (.invokespecial 48, 3) := by decide +kernel
theorem dX7_init_69 : decode cX7_init 69 = .ok (.putfield 49, 3) := by decide +kernel
theorem dX7_init_72 : decode cX7_init 72 = .ok (.aload_n 0, 1) := by decide +kernel
theorem dX7_init_73 : decode cX7_init 73 = .ok (.new 46, 3) := by decide +kernel
theorem dX7_init_76 : decode cX7_init 76 = .ok (.dup, 1) := by decide +kernel
theorem dX7_init_77 : decode cX7_init 77 = .ok (.invokespecial 48, 3) := by decide +kernel
theorem dX7_init_80 : decode cX7_init 80 = .ok (.putfield 53, 3) := by decide +kernel
theorem dX7_init_83 : decode cX7_init 83 = .ok (.return_, 1) := by decide +kernel
theorem dX7_type_0 : decode cX7_type 0 = .ok (.iload_n 1, 1) := by decide +kernel
theorem dX7_type_1 : decode cX7_type 1 = .ok (.ifCond .lt 10, 3) := by decide +kernel
theorem dX7_type_4 : decode cX7_type 4 = .ok (.iload_n 1, 1) := by decide +kernel
theorem dX7_type_5 : decode cX7_type 5 = .ok (.sipush 255, 3) := by decide +kernel
theorem dX7_type_8 : decode cX7_type 8 = .ok (.if_icmp .le 6, 3) := by decide +kernel
theorem dX7_type_11 : decode cX7_type 11 = .ok (.bipush (-3), 2) := by decide +kernel
theorem dX7_type_13 : decode cX7_type 13 = .ok (.ireturn, 1) := by decide +kernel
theorem dX7_type_14 : decode cX7_type 14 = .ok (.aload_n 0, 1) := by decide +kernel
theorem dX7_type_15 : decode cX7_type 15 = .ok (.getfield 42, 3) := by decide +kernel
theorem dX7_type_18 : decode cX7_type 18 = .ok (.iload_n 1, 1) := by decide +kernel
theorem dX7_type_19 : decode cX7_type 19 = .ok (.invokevirtual 56, 3) := by decide +kernel
theorem dX7_type_22 : decode cX7_type 22 = .ok (.ifCond .eq 13, 3) := by decide +kernel
theorem dX7_type_25 : decode cX7_type 25 = .ok (.aload_n 0, 1) := by decide +kernel
theorem dX7_type_26 : decode cX7_type 26 = .ok (.getfield 42, 3) := by decide +kernel
theorem dX7_type_29 : decode cX7_type 29 = .ok (.invokevirtual 60, 3) := by decide +kernel
theorem dX7_type_32 : decode cX7_type 32 = .ok (.goto 5, 3) := by decide +kernel
theorem dX7_type_35 : decode cX7_type 35 = .ok (.bipush (-5), 2) := by decide +kernel
theorem dX7_type_37 : decode cX7_type 37 = .ok (.ireturn, 1) := by decide +kernel
theorem dX7_erase_0 : decode cX7_erase 0 = .ok (.aload_n 0, 1) := by decide +kernel
theorem dX7_erase_1 : decode cX7_erase 1 = .ok (.getfield 42, 3) := by decide +kernel
theorem dX7_erase_4 : decode cX7_erase 4 = .ok (.invokevirtual 60, 3) := by decide +kernel
theorem dX7_erase_7 : decode cX7_erase 7 = .ok (.istore_n 1, 1) := by decide +kernel
theorem dX7_erase_8 : decode cX7_erase 8 = .ok (.aload_n 0, 1) := by decide +kernel
theorem dX7_erase_9 : decode cX7_erase 9 = .ok (.getfield 42, 3) := by decide +kernel
theorem dX7_erase_12 : decode cX7_erase 12 = .ok (.invokevirtual 64, 3) := by decide +kernel
theorem dX7_erase_15 : decode cX7_erase 15 = .ok (.iload_n 1, 1) := by decide +kernel
theorem dX7_erase_16 : decode cX7_erase 16 = .ok (.ireturn, 1) := by decide +kernel
theorem dX7_fault_0 : decode cX7_fault 0 = .ok (.aload_n 0, 1) := by decide +kernel
theorem dX7_fault_1 : decode cX7_fault 1 = .ok (.getfield 42, 3) := by decide +kernel
theorem dX7_fault_4 : decode cX7_fault 4 = .ok (.invokevirtual 67, 3) := by decide +kernel
theorem dX7_fault_7 : decode cX7_fault 7 = .ok (.ireturn, 1) := by decide +kernel
theorem dX7_tell_0 : decode cX7_tell 0 = .ok (.aload_n 0, 1) := by decide +kernel
theorem dX7_tell_1 : decode cX7_tell 1 = .ok (.getfield 42, 3) := by decide +kernel
theorem dX7_tell_4 : decode cX7_tell 4 = .ok (.invokevirtual 67, 3) := by decide +kernel
theorem dX7_tell_7 : decode cX7_tell 7 = .ok (.iconst (-1), 1) := by decide +kernel
theorem dX7_tell_8 : decode cX7_tell 8 = .ok (.if_icmp .eq 6, 3) := by decide +kernel
theorem dX7_tell_11 : decode cX7_tell 11 = .ok (.bipush (-4), 2) := by decide +kernel
theorem dX7_tell_13 : decode cX7_tell 13 = .ok (.ireturn, 1) := by decide +kernel
theorem dX7_tell_14 : decode cX7_tell 14 = .ok (.aload_n 0, 1) := by decide +kernel
theorem dX7_tell_15 : decode cX7_tell 15 = .ok (.getfield 42, 3) := by decide +kernel
theorem dX7_tell_18 : decode cX7_tell 18 = .ok (.invokevirtual 70, 3) := by decide +kernel
theorem dX7_tell_21 : decode cX7_tell 21 = .ok (.istore_n 1, 1) := by decide +kernel
theorem dX7_tell_22 : decode cX7_tell 22 = .ok (.iconst 0, 1) := by decide +kernel
theorem dX7_tell_23 : decode cX7_tell 23 = .ok (.istore_n 2, 1) := by decide +kernel
theorem dX7_tell_24 : decode cX7_tell 24 = .ok (.iload_n 2, 1) := by decide +kernel
theorem dX7_tell_25 : decode cX7_tell 25 = .ok (.iload_n 1, 1) := by decide +kernel
theorem dX7_tell_26 : decode cX7_tell 26 = .ok (.if_icmp .ge 14, 3) := by decide +kernel
theorem dX7_tell_29 : decode cX7_tell 29 = .ok (.aload_n 0, 1) := by decide +kernel
theorem dX7_tell_30 : decode cX7_tell 30 = .ok (.iload_n 2, 1) := by decide +kernel
theorem dX7_tell_31 : decode cX7_tell 31 = .ok (.invokevirtual 73, 3) := by decide +kernel
theorem dX7_tell_34 : decode cX7_tell 34 = .ok (.iinc 2 1, 3) := by decide +kernel
theorem dX7_tell_37 : decode cX7_tell 37 = .ok (.goto (-13), 3) := by decide +kernel
theorem dX7_tell_40 : decode cX7_tell 40 = .ok (.aload_n 0, 1) := by decide +kernel
theorem dX7_tell_41 : decode cX7_tell 41 = .ok (.getfield 42, 3) := by decide +kernel
theorem dX7_tell_44 : decode cX7_tell 44 = .ok (.invokevirtual 64, 3) := by decide +kernel
theorem dX7_tell_47 : decode cX7_tell 47 = .ok (.aload_n 0, 1) := by decide +kernel
theorem dX7_tell_48 : decode cX7_tell 48 = .ok (.getfield 19, 3) := by decide +kernel
theorem dX7_tell_51 : decode cX7_tell 51 = .ok (.invokevirtual 76, 3) := by decide +kernel
theorem dX7_tell_54 : decode cX7_tell 54 = .ok (.iload_n 1, 1) := by decide +kernel
theorem dX7_tell_55 : decode cX7_tell 55 = .ok (.ireturn, 1) := by decide +kernel
theorem dX7_carryOut_0 : decode cX7_carryOut 0 = .ok (.aload_n 0, 1) := by decide +kernel
theorem dX7_carryOut_1 : decode cX7_carryOut 1 = .ok (.getfield 42, 3) := by decide +kernel
theorem dX7_carryOut_4 : decode cX7_carryOut 4 = .ok (.iload_n 1, 1) := by decide +kernel
theorem dX7_carryOut_5 : decode cX7_carryOut 5 = .ok (.iconst 0, 1) := by decide +kernel
theorem dX7_carryOut_6 : decode cX7_carryOut 6 = .ok (.invokevirtual 79, 3) := by decide +kernel
theorem dX7_carryOut_9 : decode cX7_carryOut 9 = .ok (.istore_n 2, 1) := by decide +kernel
theorem dX7_carryOut_10 : decode cX7_carryOut 10 = .ok (.aload_n 0, 1) := by decide +kernel
theorem dX7_carryOut_11 : decode cX7_carryOut 11 = .ok (.getfield 42, 3) := by decide +kernel
theorem dX7_carryOut_14 : decode cX7_carryOut 14 = .ok (.iload_n 1, 1) := by decide +kernel
theorem dX7_carryOut_15 : decode cX7_carryOut 15 = .ok (.iconst 1, 1) := by decide +kernel
theorem dX7_carryOut_16 : decode cX7_carryOut 16 = .ok (.invokevirtual 79, 3) := by decide +kernel
theorem dX7_carryOut_19 : decode cX7_carryOut 19 = .ok (.istore_n 3, 1) := by decide +kernel
theorem dX7_carryOut_20 : decode cX7_carryOut 20 = .ok (.aload_n 0, 1) := by decide +kernel
theorem dX7_carryOut_21 : decode cX7_carryOut 21 = .ok (.getfield 42, 3) := by decide +kernel
theorem dX7_carryOut_24 : decode cX7_carryOut 24 = .ok (.iload_n 1, 1) := by decide +kernel
theorem dX7_carryOut_25 : decode cX7_carryOut 25 = .ok (.iconst 2, 1) := by decide +kernel
theorem dX7_carryOut_26 : decode cX7_carryOut 26 = .ok (.invokevirtual 79, 3) := by decide +kernel
theorem dX7_carryOut_29 : decode cX7_carryOut 29 = .ok (.istore 4, 2) := by decide +kernel
theorem dX7_carryOut_31 : decode cX7_carryOut 31 = .ok (.aload_n 0, 1) := by decide +kernel
theorem dX7_carryOut_32 : decode cX7_carryOut 32 = .ok (.getfield 42, 3) := by decide +kernel
theorem dX7_carryOut_35 : decode cX7_carryOut 35 = .ok (.iload_n 1, 1) := by decide +kernel
theorem dX7_carryOut_36 : decode cX7_carryOut 36 = .ok (.invokevirtual 83, 3) := by decide +kernel
theorem dX7_carryOut_39 : decode cX7_carryOut 39 = .ok (.tableswitch 146 0 7 #[45, 52, 67, 81, 94, 109, 122, 134], 45) := by decide +kernel
theorem dX7_carryOut_84 : decode cX7_carryOut 84 = .ok (.aload_n 0, 1) := by decide +kernel
theorem dX7_carryOut_85 : decode cX7_carryOut 85 = .ok (.invokevirtual 87, 3) := by decide +kernel
theorem dX7_carryOut_88 : decode cX7_carryOut 88 = .ok (.goto 97, 3) := by decide +kernel
theorem dX7_carryOut_91 : decode cX7_carryOut 91 = .ok (.aload_n 0, 1) := by decide +kernel
theorem dX7_carryOut_92 : decode cX7_carryOut 92 = .ok (.getfield 12, 3) := by decide +kernel
theorem dX7_carryOut_95 : decode cX7_carryOut 95 = .ok (.iload_n 2, 1) := by decide +kernel
theorem dX7_carryOut_96 : decode cX7_carryOut 96 = .ok (.iload_n 3, 1) := by decide +kernel
theorem dX7_carryOut_97 : decode cX7_carryOut 97 = .ok (.iload 4, 2) := by decide +kernel
theorem dX7_carryOut_99 : decode cX7_carryOut 99 = .ok (.invokevirtual 90, 3) := by decide +kernel
theorem dX7_carryOut_102 : decode cX7_carryOut 102 = .ok (.pop, 1) := by decide +kernel
theorem dX7_carryOut_103 : decode cX7_carryOut 103 = .ok (.goto 82, 3) := by decide +kernel
theorem dX7_carryOut_106 : decode cX7_carryOut 106 = .ok (.aload_n 0, 1) := by decide +kernel
theorem dX7_carryOut_107 : decode cX7_carryOut 107 = .ok (.getfield 12, 3) := by decide +kernel
theorem dX7_carryOut_110 : decode cX7_carryOut 110 = .ok (.iconst (-1), 1) := by decide +kernel
theorem dX7_carryOut_111 : decode cX7_carryOut 111 = .ok (.iload_n 2, 1) := by decide +kernel
theorem dX7_carryOut_112 : decode cX7_carryOut 112 = .ok (.iload_n 3, 1) := by decide +kernel
theorem dX7_carryOut_113 : decode cX7_carryOut 113 = .ok (.invokevirtual 90, 3) := by decide +kernel
theorem dX7_carryOut_116 : decode cX7_carryOut 116 = .ok (.pop, 1) := by decide +kernel
theorem dX7_carryOut_117 : decode cX7_carryOut 117 = .ok (.goto 68, 3) := by decide +kernel
theorem dX7_carryOut_120 : decode cX7_carryOut 120 = .ok (.aload_n 0, 1) := by decide +kernel
theorem dX7_carryOut_121 : decode cX7_carryOut 121 = .ok (.getfield 12, 3) := by decide +kernel
theorem dX7_carryOut_124 : decode cX7_carryOut 124 = .ok (.iload_n 2, 1) := by decide +kernel
theorem dX7_carryOut_125 : decode cX7_carryOut 125 = .ok (.iload_n 3, 1) := by decide +kernel
theorem dX7_carryOut_126 : decode cX7_carryOut 126 = .ok (.invokevirtual 94, 3) := by decide +kernel
theorem dX7_carryOut_129 : decode cX7_carryOut 129 = .ok (.pop, 1) := by decide +kernel
theorem dX7_carryOut_130 : decode cX7_carryOut 130 = .ok (.goto 55, 3) := by decide +kernel
theorem dX7_carryOut_133 : decode cX7_carryOut 133 = .ok (.aload_n 0, 1) := by decide +kernel
theorem dX7_carryOut_134 : decode cX7_carryOut 134 = .ok (.getfield 12, 3) := by decide +kernel
theorem dX7_carryOut_137 : decode cX7_carryOut 137 = .ok (.iload_n 2, 1) := by decide +kernel
theorem dX7_carryOut_138 : decode cX7_carryOut 138 = .ok (.iload_n 3, 1) := by decide +kernel
theorem dX7_carryOut_139 : decode cX7_carryOut 139 = .ok (.iload 4, 2) := by decide +kernel
theorem dX7_carryOut_141 : decode cX7_carryOut 141 = .ok (.invokevirtual 97, 3) := by decide +kernel
theorem dX7_carryOut_144 : decode cX7_carryOut 144 = .ok (.pop, 1) := by decide +kernel
theorem dX7_carryOut_145 : decode cX7_carryOut 145 = .ok (.goto 40, 3) := by decide +kernel
theorem dX7_carryOut_148 : decode cX7_carryOut 148 = .ok (.aload_n 0, 1) := by decide +kernel
theorem dX7_carryOut_149 : decode cX7_carryOut 149 = .ok (.getfield 12, 3) := by decide +kernel
theorem dX7_carryOut_152 : decode cX7_carryOut 152 = .ok (.iload_n 2, 1) := by decide +kernel
theorem dX7_carryOut_153 : decode cX7_carryOut 153 = .ok (.iload_n 3, 1) := by decide +kernel
theorem dX7_carryOut_154 : decode cX7_carryOut 154 = .ok (.invokevirtual 100, 3) := by decide +kernel
theorem dX7_carryOut_157 : decode cX7_carryOut 157 = .ok (.pop, 1) := by decide +kernel
theorem dX7_carryOut_158 : decode cX7_carryOut 158 = .ok (.goto 27, 3) := by decide +kernel
theorem dX7_carryOut_161 : decode cX7_carryOut 161 = .ok (.aload_n 0, 1) := by decide +kernel
theorem dX7_carryOut_162 : decode cX7_carryOut 162 = .ok (.iload_n 2, 1) := by decide +kernel
theorem dX7_carryOut_163 : decode cX7_carryOut 163 = .ok (.iload_n 3, 1) := by decide +kernel
theorem dX7_carryOut_164 : decode cX7_carryOut 164 = .ok (.iload 4, 2) := by decide +kernel
theorem dX7_carryOut_166 : decode cX7_carryOut 166 = .ok (.invokevirtual 103, 3) := by decide +kernel
theorem dX7_carryOut_169 : decode cX7_carryOut 169 = .ok (.pop, 1) := by decide +kernel
theorem dX7_carryOut_170 : decode cX7_carryOut 170 = .ok (.goto 15, 3) := by decide +kernel
theorem dX7_carryOut_173 : decode cX7_carryOut 173 = .ok (.aload_n 0, 1) := by decide +kernel
theorem dX7_carryOut_174 : decode cX7_carryOut 174 = .ok (.getfield 12, 3) := by decide +kernel
theorem dX7_carryOut_177 : decode cX7_carryOut 177 = .ok (.iload_n 2, 1) := by decide +kernel
theorem dX7_carryOut_178 : decode cX7_carryOut 178 = .ok (.invokevirtual 106, 3) := by decide +kernel
theorem dX7_carryOut_181 : decode cX7_carryOut 181 = .ok (.pop, 1) := by decide +kernel
theorem dX7_carryOut_182 : decode cX7_carryOut 182 = .ok (.goto 3, 3) := by decide +kernel
theorem dX7_carryOut_185 : decode cX7_carryOut 185 = .ok (.return_, 1) := by decide +kernel
theorem dX7_beginAnew_0 : decode cX7_beginAnew 0 = .ok (.aload_n 0, 1) := by decide +kernel
theorem dX7_beginAnew_1 : decode cX7_beginAnew 1 = .ok (.getfield 12, 3) := by decide +kernel
theorem dX7_beginAnew_4 : decode cX7_beginAnew 4 = .ok (.invokevirtual 109, 3) := by decide +kernel
theorem dX7_beginAnew_7 : decode cX7_beginAnew 7 = .ok (.aload_n 0, 1) := by decide +kernel
theorem dX7_beginAnew_8 : decode cX7_beginAnew 8 = .ok (.getfield 35, 3) := by decide +kernel
theorem dX7_beginAnew_11 : decode cX7_beginAnew 11 = .ok (.iconst 0, 1) := by decide +kernel
theorem dX7_beginAnew_12 : decode cX7_beginAnew 12 = .ok (.invokevirtual 112, 3) := by decide +kernel
theorem dX7_beginAnew_15 : decode cX7_beginAnew 15 = .ok (.aload_n 0, 1) := by decide +kernel
theorem dX7_beginAnew_16 : decode cX7_beginAnew 16 = .ok (.getfield 49, 3) := by decide +kernel
theorem dX7_beginAnew_19 : decode cX7_beginAnew 19 = .ok (.invokevirtual 115, 3) := by decide +kernel
theorem dX7_beginAnew_22 : decode cX7_beginAnew 22 = .ok (.return_, 1) := by decide +kernel
theorem dX7_series_0 : decode cX7_series 0 = .ok (.aload_n 0, 1) := by decide +kernel
theorem dX7_series_1 : decode cX7_series 1 = .ok (.getfield 19, 3) := by decide +kernel
theorem dX7_series_4 : decode cX7_series 4 = .ok (.aload_n 0, 1) := by decide +kernel
theorem dX7_series_5 : decode cX7_series 5 = .ok (.getfield 12, 3) := by decide +kernel
theorem dX7_series_8 : decode cX7_series 8 = .ok (.invokevirtual 116, 3) := by decide +kernel
theorem dX7_series_11 : decode cX7_series 11 = .ok (.aload_n 0, 1) := by decide +kernel
theorem dX7_series_12 : decode cX7_series 12 = .ok (.aload_n 0, 1) := by decide +kernel
theorem dX7_series_13 : decode cX7_series 13 = .ok (.getfield 12, 3) := by decide +kernel
theorem dX7_series_16 : decode cX7_series 16 = .ok (.iload_n 1, 1) := by decide +kernel
theorem dX7_series_17 : decode cX7_series 17 = .ok (.iload_n 2, 1) := by decide +kernel
theorem dX7_series_18 : decode cX7_series 18 = .ok (.iload_n 3, 1) := by decide +kernel
theorem dX7_series_19 : decode cX7_series 19 = .ok (.invokevirtual 90, 3) := by decide +kernel
theorem dX7_series_22 : decode cX7_series 22 = .ok (.invokevirtual 120, 3) := by decide +kernel
theorem dX7_series_25 : decode cX7_series 25 = .ok (.ireturn, 1) := by decide +kernel
theorem dX7_room_0 : decode cX7_room 0 = .ok (.aload_n 0, 1) := by decide +kernel
theorem dX7_room_1 : decode cX7_room 1 = .ok (.getfield 19, 3) := by decide +kernel
theorem dX7_room_4 : decode cX7_room 4 = .ok (.aload_n 0, 1) := by decide +kernel
theorem dX7_room_5 : decode cX7_room 5 = .ok (.getfield 12, 3) := by decide +kernel
theorem dX7_room_8 : decode cX7_room 8 = .ok (.invokevirtual 116, 3) := by decide +kernel
theorem dX7_room_11 : decode cX7_room 11 = .ok (.aload_n 0, 1) := by decide +kernel
theorem dX7_room_12 : decode cX7_room 12 = .ok (.aload_n 0, 1) := by decide +kernel
theorem dX7_room_13 : decode cX7_room 13 = .ok (.getfield 12, 3) := by decide +kernel
theorem dX7_room_16 : decode cX7_room 16 = .ok (.iload_n 1, 1) := by decide +kernel
theorem dX7_room_17 : decode cX7_room 17 = .ok (.iload_n 2, 1) := by decide +kernel
theorem dX7_room_18 : decode cX7_room 18 = .ok (.invokevirtual 94, 3) := by decide +kernel
theorem dX7_room_21 : decode cX7_room 21 = .ok (.invokevirtual 120, 3) := by decide +kernel
theorem dX7_room_24 : decode cX7_room 24 = .ok (.ireturn, 1) := by decide +kernel
theorem dX7_lay_0 : decode cX7_lay 0 = .ok (.aload_n 0, 1) := by decide +kernel
theorem dX7_lay_1 : decode cX7_lay 1 = .ok (.getfield 19, 3) := by decide +kernel
theorem dX7_lay_4 : decode cX7_lay 4 = .ok (.aload_n 0, 1) := by decide +kernel
theorem dX7_lay_5 : decode cX7_lay 5 = .ok (.getfield 12, 3) := by decide +kernel
theorem dX7_lay_8 : decode cX7_lay 8 = .ok (.invokevirtual 116, 3) := by decide +kernel
theorem dX7_lay_11 : decode cX7_lay 11 = .ok (.aload_n 0, 1) := by decide +kernel
theorem dX7_lay_12 : decode cX7_lay 12 = .ok (.aload_n 0, 1) := by decide +kernel
theorem dX7_lay_13 : decode cX7_lay 13 = .ok (.getfield 12, 3) := by decide +kernel
theorem dX7_lay_16 : decode cX7_lay 16 = .ok (.iload_n 1, 1) := by decide +kernel
theorem dX7_lay_17 : decode cX7_lay 17 = .ok (.iload_n 2, 1) := by decide +kernel
theorem dX7_lay_18 : decode cX7_lay 18 = .ok (.iload_n 3, 1) := by decide +kernel
theorem dX7_lay_19 : decode cX7_lay 19 = .ok (.invokevirtual 97, 3) := by decide +kernel
theorem dX7_lay_22 : decode cX7_lay 22 = .ok (.invokevirtual 120, 3) := by decide +kernel
theorem dX7_lay_25 : decode cX7_lay 25 = .ok (.ireturn, 1) := by decide +kernel
theorem dX7_take_0 : decode cX7_take 0 = .ok (.aload_n 0, 1) := by decide +kernel
theorem dX7_take_1 : decode cX7_take 1 = .ok (.getfield 19, 3) := by decide +kernel
theorem dX7_take_4 : decode cX7_take 4 = .ok (.aload_n 0, 1) := by decide +kernel
theorem dX7_take_5 : decode cX7_take 5 = .ok (.getfield 12, 3) := by decide +kernel
theorem dX7_take_8 : decode cX7_take 8 = .ok (.invokevirtual 116, 3) := by decide +kernel
theorem dX7_take_11 : decode cX7_take 11 = .ok (.aload_n 0, 1) := by decide +kernel
theorem dX7_take_12 : decode cX7_take 12 = .ok (.aload_n 0, 1) := by decide +kernel
theorem dX7_take_13 : decode cX7_take 13 = .ok (.getfield 12, 3) := by decide +kernel
theorem dX7_take_16 : decode cX7_take 16 = .ok (.iload_n 1, 1) := by decide +kernel
theorem dX7_take_17 : decode cX7_take 17 = .ok (.iload_n 2, 1) := by decide +kernel
theorem dX7_take_18 : decode cX7_take 18 = .ok (.invokevirtual 100, 3) := by decide +kernel
theorem dX7_take_21 : decode cX7_take 21 = .ok (.invokevirtual 120, 3) := by decide +kernel
theorem dX7_take_24 : decode cX7_take 24 = .ok (.ireturn, 1) := by decide +kernel
theorem dX7_shift_0 : decode cX7_shift 0 = .ok (.aload_n 0, 1) := by decide +kernel
theorem dX7_shift_1 : decode cX7_shift 1 = .ok (.getfield 19, 3) := by decide +kernel
theorem dX7_shift_4 : decode cX7_shift 4 = .ok (.aload_n 0, 1) := by decide +kernel
theorem dX7_shift_5 : decode cX7_shift 5 = .ok (.getfield 12, 3) := by decide +kernel
theorem dX7_shift_8 : decode cX7_shift 8 = .ok (.invokevirtual 116, 3) := by decide +kernel
theorem dX7_shift_11 : decode cX7_shift 11 = .ok (.aload_n 0, 1) := by decide +kernel
theorem dX7_shift_12 : decode cX7_shift 12 = .ok (.aload_n 0, 1) := by decide +kernel
theorem dX7_shift_13 : decode cX7_shift 13 = .ok (.getfield 12, 3) := by decide +kernel
theorem dX7_shift_16 : decode cX7_shift 16 = .ok (.iload_n 1, 1) := by decide +kernel
theorem dX7_shift_17 : decode cX7_shift 17 = .ok (.iload_n 2, 1) := by decide +kernel
theorem dX7_shift_18 : decode cX7_shift 18 = .ok (.invokevirtual 123, 3) := by decide +kernel
theorem dX7_shift_21 : decode cX7_shift 21 = .ok (.invokevirtual 120, 3) := by decide +kernel
theorem dX7_shift_24 : decode cX7_shift 24 = .ok (.ireturn, 1) := by decide +kernel
theorem dX7_stow_0 : decode cX7_stow 0 = .ok (.aload_n 0, 1) := by decide +kernel
theorem dX7_stow_1 : decode cX7_stow 1 = .ok (.getfield 12, 3) := by decide +kernel
theorem dX7_stow_4 : decode cX7_stow 4 = .ok (.iload_n 1, 1) := by decide +kernel
theorem dX7_stow_5 : decode cX7_stow 5 = .ok (.invokevirtual 126, 3) := by decide +kernel
theorem dX7_stow_8 : decode cX7_stow 8 = .ok (.ifCond .ne 6, 3) := by decide +kernel
theorem dX7_stow_11 : decode cX7_stow 11 = .ok (.bipush (-2), 2) := by decide +kernel
theorem dX7_stow_13 : decode cX7_stow 13 = .ok (.ireturn, 1) := by decide +kernel
theorem dX7_stow_14 : decode cX7_stow 14 = .ok (.aload_n 0, 1) := by decide +kernel
theorem dX7_stow_15 : decode cX7_stow 15 = .ok (.getfield 26, 3) := by decide +kernel
theorem dX7_stow_18 : decode cX7_stow 18 = .ok (.aload_n 0, 1) := by decide +kernel
theorem dX7_stow_19 : decode cX7_stow 19 = .ok (.getfield 12, 3) := by decide +kernel
theorem dX7_stow_22 : decode cX7_stow 22 = .ok (.iload_n 1, 1) := by decide +kernel
theorem dX7_stow_23 : decode cX7_stow 23 = .ok (.invokevirtual 129, 3) := by decide +kernel
theorem dX7_stow_26 : decode cX7_stow 26 = .ok (.aload_n 0, 1) := by decide +kernel
theorem dX7_stow_27 : decode cX7_stow 27 = .ok (.getfield 19, 3) := by decide +kernel
theorem dX7_stow_30 : decode cX7_stow 30 = .ok (.aload_n 0, 1) := by decide +kernel
theorem dX7_stow_31 : decode cX7_stow 31 = .ok (.getfield 12, 3) := by decide +kernel
theorem dX7_stow_34 : decode cX7_stow 34 = .ok (.invokevirtual 116, 3) := by decide +kernel
theorem dX7_stow_37 : decode cX7_stow 37 = .ok (.aload_n 0, 1) := by decide +kernel
theorem dX7_stow_38 : decode cX7_stow 38 = .ok (.aload_n 0, 1) := by decide +kernel
theorem dX7_stow_39 : decode cX7_stow 39 = .ok (.getfield 12, 3) := by decide +kernel
theorem dX7_stow_42 : decode cX7_stow 42 = .ok (.aload_n 0, 1) := by decide +kernel
theorem dX7_stow_43 : decode cX7_stow 43 = .ok (.getfield 26, 3) := by decide +kernel
theorem dX7_stow_46 : decode cX7_stow 46 = .ok (.invokevirtual 133, 3) := by decide +kernel
theorem dX7_stow_49 : decode cX7_stow 49 = .ok (.invokevirtual 137, 3) := by decide +kernel
theorem dX7_stow_52 : decode cX7_stow 52 = .ok (.invokevirtual 120, 3) := by decide +kernel
theorem dX7_stow_55 : decode cX7_stow 55 = .ok (.ireturn, 1) := by decide +kernel
theorem dX7_pass_0 : decode cX7_pass 0 = .ok (.aload_n 0, 1) := by decide +kernel
theorem dX7_pass_1 : decode cX7_pass 1 = .ok (.getfield 19, 3) := by decide +kernel
theorem dX7_pass_4 : decode cX7_pass 4 = .ok (.aload_n 0, 1) := by decide +kernel
theorem dX7_pass_5 : decode cX7_pass 5 = .ok (.getfield 12, 3) := by decide +kernel
theorem dX7_pass_8 : decode cX7_pass 8 = .ok (.invokevirtual 116, 3) := by decide +kernel
theorem dX7_pass_11 : decode cX7_pass 11 = .ok (.aload_n 0, 1) := by decide +kernel
theorem dX7_pass_12 : decode cX7_pass 12 = .ok (.aload_n 0, 1) := by decide +kernel
theorem dX7_pass_13 : decode cX7_pass 13 = .ok (.getfield 12, 3) := by decide +kernel
theorem dX7_pass_16 : decode cX7_pass 16 = .ok (.iload_n 1, 1) := by decide +kernel
theorem dX7_pass_17 : decode cX7_pass 17 = .ok (.invokevirtual 106, 3) := by decide +kernel
theorem dX7_pass_20 : decode cX7_pass 20 = .ok (.invokevirtual 120, 3) := by decide +kernel
theorem dX7_pass_23 : decode cX7_pass 23 = .ok (.ireturn, 1) := by decide +kernel
theorem dX7_settle_0 : decode cX7_settle 0 = .ok (.iload_n 1, 1) := by decide +kernel
theorem dX7_settle_1 : decode cX7_settle 1 = .ok (.ifCond .ge 17, 3) := by decide +kernel
theorem dX7_settle_4 : decode cX7_settle 4 = .ok (.aload_n 0, 1) := by decide +kernel
theorem dX7_settle_5 : decode cX7_settle 5 = .ok (.getfield 19, 3) := by decide +kernel
theorem dX7_settle_8 : decode cX7_settle 8 = .ok (.aload_n 0, 1) := by decide +kernel
theorem dX7_settle_9 : decode cX7_settle 9 = .ok (.getfield 12, 3) := by decide +kernel
theorem dX7_settle_12 : decode cX7_settle 12 = .ok (.invokevirtual 141, 3) := by decide +kernel
theorem dX7_settle_15 : decode cX7_settle 15 = .ok (.goto 10, 3) := by decide +kernel
theorem dX7_settle_18 : decode cX7_settle 18 = .ok (.aload_n 0, 1) := by decide +kernel
theorem dX7_settle_19 : decode cX7_settle 19 = .ok (.getfield 19, 3) := by decide +kernel
theorem dX7_settle_22 : decode cX7_settle 22 = .ok (.invokevirtual 144, 3) := by decide +kernel
theorem dX7_settle_25 : decode cX7_settle 25 = .ok (.iload_n 1, 1) := by decide +kernel
theorem dX7_settle_26 : decode cX7_settle 26 = .ok (.ireturn, 1) := by decide +kernel
theorem dX7_undo_0 : decode cX7_undo 0 = .ok (.aload_n 0, 1) := by decide +kernel
theorem dX7_undo_1 : decode cX7_undo 1 = .ok (.getfield 19, 3) := by decide +kernel
theorem dX7_undo_4 : decode cX7_undo 4 = .ok (.aload_n 0, 1) := by decide +kernel
theorem dX7_undo_5 : decode cX7_undo 5 = .ok (.getfield 12, 3) := by decide +kernel
theorem dX7_undo_8 : decode cX7_undo 8 = .ok (.invokevirtual 147, 3) := by decide +kernel
theorem dX7_undo_11 : decode cX7_undo 11 = .ok (.ifCond .eq 13, 3) := by decide +kernel
theorem dX7_undo_14 : decode cX7_undo 14 = .ok (.aload_n 0, 1) := by decide +kernel
theorem dX7_undo_15 : decode cX7_undo 15 = .ok (.getfield 19, 3) := by decide +kernel
theorem dX7_undo_18 : decode cX7_undo 18 = .ok (.invokevirtual 151, 3) := by decide +kernel
theorem dX7_undo_21 : decode cX7_undo 21 = .ok (.goto 5, 3) := by decide +kernel
theorem dX7_undo_24 : decode cX7_undo 24 = .ok (.bipush (-4), 2) := by decide +kernel
theorem dX7_undo_26 : decode cX7_undo 26 = .ok (.ireturn, 1) := by decide +kernel
theorem dX7_of_0 : decode cX7_of 0 = .ok (.aload_n 0, 1) := by decide +kernel
theorem dX7_of_1 : decode cX7_of 1 = .ok (.getfield 12, 3) := by decide +kernel
theorem dX7_of_4 : decode cX7_of 4 = .ok (.iload_n 1, 1) := by decide +kernel
theorem dX7_of_5 : decode cX7_of 5 = .ok (.invokevirtual 126, 3) := by decide +kernel
theorem dX7_of_8 : decode cX7_of 8 = .ok (.ifCond .ne 6, 3) := by decide +kernel
theorem dX7_of_11 : decode cX7_of 11 = .ok (.bipush (-2), 2) := by decide +kernel
theorem dX7_of_13 : decode cX7_of 13 = .ok (.ireturn, 1) := by decide +kernel
theorem dX7_of_14 : decode cX7_of 14 = .ok (.aload_n 0, 1) := by decide +kernel
theorem dX7_of_15 : decode cX7_of 15 = .ok (.getfield 12, 3) := by decide +kernel
theorem dX7_of_18 : decode cX7_of 18 = .ok (.iload_n 1, 1) := by decide +kernel
theorem dX7_of_19 : decode cX7_of 19 = .ok (.invokevirtual 154, 3) := by decide +kernel
theorem dX7_of_22 : decode cX7_of 22 = .ok (.istore_n 3, 1) := by decide +kernel
theorem dX7_of_23 : decode cX7_of 23 = .ok (.aload_n 0, 1) := by decide +kernel
theorem dX7_of_24 : decode cX7_of 24 = .ok (.getfield 12, 3) := by decide +kernel
theorem dX7_of_27 : decode cX7_of 27 = .ok (.iload_n 1, 1) := by decide +kernel
theorem dX7_of_28 : decode cX7_of 28 = .ok (.invokevirtual 157, 3) := by decide +kernel
theorem dX7_of_31 : decode cX7_of 31 = .ok (.istore 4, 2) := by decide +kernel
theorem dX7_of_33 : decode cX7_of 33 = .ok (.iload_n 2, 1) := by decide +kernel
theorem dX7_of_34 : decode cX7_of 34 = .ok (.tableswitch 138 0 7 #[46, 55, 57, 60, 69, 78, 92, 115], 46) := by decide +kernel
theorem dX7_of_80 : decode cX7_of 80 = .ok (.aload_n 0, 1) := by decide +kernel
theorem dX7_of_81 : decode cX7_of 81 = .ok (.getfield 12, 3) := by decide +kernel
theorem dX7_of_84 : decode cX7_of 84 = .ok (.iload_n 1, 1) := by decide +kernel
theorem dX7_of_85 : decode cX7_of 85 = .ok (.invokevirtual 160, 3) := by decide +kernel
theorem dX7_of_88 : decode cX7_of 88 = .ok (.ireturn, 1) := by decide +kernel
theorem dX7_of_89 : decode cX7_of 89 = .ok (.iload_n 3, 1) := by decide +kernel
theorem dX7_of_90 : decode cX7_of 90 = .ok (.ireturn, 1) := by decide +kernel
theorem dX7_of_91 : decode cX7_of 91 = .ok (.iload 4, 2) := by decide +kernel
theorem dX7_of_93 : decode cX7_of 93 = .ok (.ireturn, 1) := by decide +kernel
theorem dX7_of_94 : decode cX7_of 94 = .ok (.aload_n 0, 1) := by decide +kernel
theorem dX7_of_95 : decode cX7_of 95 = .ok (.getfield 12, 3) := by decide +kernel
theorem dX7_of_98 : decode cX7_of 98 = .ok (.iload_n 1, 1) := by decide +kernel
theorem dX7_of_99 : decode cX7_of 99 = .ok (.invokevirtual 163, 3) := by decide +kernel
theorem dX7_of_102 : decode cX7_of 102 = .ok (.ireturn, 1) := by decide +kernel
theorem dX7_of_103 : decode cX7_of 103 = .ok (.aload_n 0, 1) := by decide +kernel
theorem dX7_of_104 : decode cX7_of 104 = .ok (.getfield 12, 3) := by decide +kernel
theorem dX7_of_107 : decode cX7_of 107 = .ok (.iload_n 1, 1) := by decide +kernel
theorem dX7_of_108 : decode cX7_of 108 = .ok (.invokevirtual 166, 3) := by decide +kernel
theorem dX7_of_111 : decode cX7_of 111 = .ok (.ireturn, 1) := by decide +kernel
theorem dX7_of_112 : decode cX7_of 112 = .ok (.aload_n 0, 1) := by decide +kernel
theorem dX7_of_113 : decode cX7_of 113 = .ok (.getfield 12, 3) := by decide +kernel
theorem dX7_of_116 : decode cX7_of 116 = .ok (.invokevirtual 169, 3) := by decide +kernel
theorem dX7_of_119 : decode cX7_of 119 = .ok (.iload_n 3, 1) := by decide +kernel
theorem dX7_of_120 : decode cX7_of 120 = .ok (.iload 4, 2) := by decide +kernel
theorem dX7_of_122 : decode cX7_of 122 = .ok (.invokevirtual 172, 3) := by decide +kernel
theorem dX7_of_125 : decode cX7_of 125 = .ok (.ireturn, 1) := by decide +kernel
theorem dX7_of_126 : decode cX7_of 126 = .ok (.iload 4, 2) := by decide +kernel
theorem dX7_of_128 : decode cX7_of 128 = .ok (.iload_n 3, 1) := by decide +kernel
theorem dX7_of_129 : decode cX7_of 129 = .ok (.isub, 1) := by decide +kernel
theorem dX7_of_130 : decode cX7_of 130 = .ok (.iconst 1, 1) := by decide +kernel
theorem dX7_of_131 : decode cX7_of 131 = .ok (.iadd, 1) := by decide +kernel
theorem dX7_of_132 : decode cX7_of 132 = .ok (.aload_n 0, 1) := by decide +kernel
theorem dX7_of_133 : decode cX7_of 133 = .ok (.getfield 12, 3) := by decide +kernel
theorem dX7_of_136 : decode cX7_of 136 = .ok (.invokevirtual 169, 3) := by decide +kernel
theorem dX7_of_139 : decode cX7_of 139 = .ok (.bipush (-100), 2) := by decide +kernel
theorem dX7_of_141 : decode cX7_of 141 = .ok (.iload_n 3, 1) := by decide +kernel
theorem dX7_of_142 : decode cX7_of 142 = .ok (.iload 4, 2) := by decide +kernel
theorem dX7_of_144 : decode cX7_of 144 = .ok (.invokevirtual 175, 3) := by decide +kernel
theorem dX7_of_147 : decode cX7_of 147 = .ok (.isub, 1) := by decide +kernel
theorem dX7_of_148 : decode cX7_of 148 = .ok (.ireturn, 1) := by decide +kernel
theorem dX7_of_149 : decode cX7_of 149 = .ok (.aload_n 0, 1) := by decide +kernel
theorem dX7_of_150 : decode cX7_of 150 = .ok (.getfield 26, 3) := by decide +kernel
theorem dX7_of_153 : decode cX7_of 153 = .ok (.aload_n 0, 1) := by decide +kernel
theorem dX7_of_154 : decode cX7_of 154 = .ok (.getfield 12, 3) := by decide +kernel
theorem dX7_of_157 : decode cX7_of 157 = .ok (.iload_n 1, 1) := by decide +kernel
theorem dX7_of_158 : decode cX7_of 158 = .ok (.invokevirtual 178, 3) := by decide +kernel
theorem dX7_of_161 : decode cX7_of 161 = .ok (.aload_n 0, 1) := by decide +kernel
theorem dX7_of_162 : decode cX7_of 162 = .ok (.getfield 26, 3) := by decide +kernel
theorem dX7_of_165 : decode cX7_of 165 = .ok (.invokevirtual 181, 3) := by decide +kernel
theorem dX7_of_168 : decode cX7_of 168 = .ok (.invokevirtual 184, 3) := by decide +kernel
theorem dX7_of_171 : decode cX7_of 171 = .ok (.ireturn, 1) := by decide +kernel
theorem dX7_of_172 : decode cX7_of 172 = .ok (.bipush (-3), 2) := by decide +kernel
theorem dX7_of_174 : decode cX7_of 174 = .ok (.ireturn, 1) := by decide +kernel
theorem dX7_box_0 : decode cX7_box 0 = .ok (.iload_n 1, 1) := by decide +kernel
theorem dX7_box_1 : decode cX7_box 1 = .ok (.invokestatic 187, 3) := by decide +kernel
theorem dX7_box_4 : decode cX7_box 4 = .ok (.ifCond .ne 6, 3) := by decide +kernel
theorem dX7_box_7 : decode cX7_box 7 = .ok (.bipush (-2), 2) := by decide +kernel
theorem dX7_box_9 : decode cX7_box 9 = .ok (.ireturn, 1) := by decide +kernel
theorem dX7_box_10 : decode cX7_box 10 = .ok (.iload_n 2, 1) := by decide +kernel
theorem dX7_box_11 : decode cX7_box 11 = .ok (.tableswitch 100 0 5 #[37, 46, 55, 67, 76, 88], 37) := by decide +kernel
theorem dX7_box_48 : decode cX7_box 48 = .ok (.aload_n 0, 1) := by decide +kernel
theorem dX7_box_49 : decode cX7_box 49 = .ok (.getfield 12, 3) := by decide +kernel
theorem dX7_box_52 : decode cX7_box 52 = .ok (.iload_n 1, 1) := by decide +kernel
theorem dX7_box_53 : decode cX7_box 53 = .ok (.invokevirtual 190, 3) := by decide +kernel
theorem dX7_box_56 : decode cX7_box 56 = .ok (.ireturn, 1) := by decide +kernel
theorem dX7_box_57 : decode cX7_box 57 = .ok (.aload_n 0, 1) := by decide +kernel
theorem dX7_box_58 : decode cX7_box 58 = .ok (.getfield 12, 3) := by decide +kernel
theorem dX7_box_61 : decode cX7_box 61 = .ok (.iload_n 1, 1) := by decide +kernel
theorem dX7_box_62 : decode cX7_box 62 = .ok (.invokevirtual 193, 3) := by decide +kernel
theorem dX7_box_65 : decode cX7_box 65 = .ok (.ireturn, 1) := by decide +kernel
theorem dX7_box_66 : decode cX7_box 66 = .ok (.aload_n 0, 1) := by decide +kernel
theorem dX7_box_67 : decode cX7_box 67 = .ok (.getfield 12, 3) := by decide +kernel
theorem dX7_box_70 : decode cX7_box 70 = .ok (.invokevirtual 169, 3) := by decide +kernel
theorem dX7_box_73 : decode cX7_box 73 = .ok (.iload_n 1, 1) := by decide +kernel
theorem dX7_box_74 : decode cX7_box 74 = .ok (.invokevirtual 196, 3) := by decide +kernel
theorem dX7_box_77 : decode cX7_box 77 = .ok (.ireturn, 1) := by decide +kernel
theorem dX7_box_78 : decode cX7_box 78 = .ok (.aload_n 0, 1) := by decide +kernel
theorem dX7_box_79 : decode cX7_box 79 = .ok (.getfield 12, 3) := by decide +kernel
theorem dX7_box_82 : decode cX7_box 82 = .ok (.iload_n 1, 1) := by decide +kernel
theorem dX7_box_83 : decode cX7_box 83 = .ok (.invokevirtual 199, 3) := by decide +kernel
theorem dX7_box_86 : decode cX7_box 86 = .ok (.ireturn, 1) := by decide +kernel
theorem dX7_box_87 : decode cX7_box 87 = .ok (.aload_n 0, 1) := by decide +kernel
theorem dX7_box_88 : decode cX7_box 88 = .ok (.getfield 12, 3) := by decide +kernel
theorem dX7_box_91 : decode cX7_box 91 = .ok (.invokevirtual 169, 3) := by decide +kernel
theorem dX7_box_94 : decode cX7_box 94 = .ok (.iload_n 1, 1) := by decide +kernel
theorem dX7_box_95 : decode cX7_box 95 = .ok (.invokevirtual 202, 3) := by decide +kernel
theorem dX7_box_98 : decode cX7_box 98 = .ok (.ireturn, 1) := by decide +kernel
theorem dX7_box_99 : decode cX7_box 99 = .ok (.aload_n 0, 1) := by decide +kernel
theorem dX7_box_100 : decode cX7_box 100 = .ok (.getfield 12, 3) := by decide +kernel
theorem dX7_box_103 : decode cX7_box 103 = .ok (.invokevirtual 169, 3) := by decide +kernel
theorem dX7_box_106 : decode cX7_box 106 = .ok (.iload_n 1, 1) := by decide +kernel
theorem dX7_box_107 : decode cX7_box 107 = .ok (.invokevirtual 205, 3) := by decide +kernel
theorem dX7_box_110 : decode cX7_box 110 = .ok (.ireturn, 1) := by decide +kernel
theorem dX7_box_111 : decode cX7_box 111 = .ok (.bipush (-3), 2) := by decide +kernel
theorem dX7_box_113 : decode cX7_box 113 = .ok (.ireturn, 1) := by decide +kernel
theorem dX7_piece_0 : decode cX7_piece 0 = .ok (.aload_n 0, 1) := by decide +kernel
theorem dX7_piece_1 : decode cX7_piece 1 = .ok (.getfield 12, 3) := by decide +kernel
theorem dX7_piece_4 : decode cX7_piece 4 = .ok (.invokevirtual 169, 3) := by decide +kernel
theorem dX7_piece_7 : decode cX7_piece 7 = .ok (.astore_n 3, 1) := by decide +kernel
theorem dX7_piece_8 : decode cX7_piece 8 = .ok (.aload_n 3, 1) := by decide +kernel
theorem dX7_piece_9 : decode cX7_piece 9 = .ok (.iload_n 1, 1) := by decide +kernel
theorem dX7_piece_10 : decode cX7_piece 10 = .ok (.invokevirtual 208, 3) := by decide +kernel
theorem dX7_piece_13 : decode cX7_piece 13 = .ok (.ifCond .ne 6, 3) := by decide +kernel
theorem dX7_piece_16 : decode cX7_piece 16 = .ok (.bipush (-2), 2) := by decide +kernel
theorem dX7_piece_18 : decode cX7_piece 18 = .ok (.ireturn, 1) := by decide +kernel
theorem dX7_piece_19 : decode cX7_piece 19 = .ok (.aload_n 3, 1) := by decide +kernel
theorem dX7_piece_20 : decode cX7_piece 20 = .ok (.iload_n 1, 1) := by decide +kernel
theorem dX7_piece_21 : decode cX7_piece 21 = .ok (.iload_n 2, 1) := by decide +kernel
theorem dX7_piece_22 : decode cX7_piece 22 = .ok (.invokestatic 211, 3) := by decide +kernel
theorem dX7_piece_25 : decode cX7_piece 25 = .ok (.ireturn, 1) := by decide +kernel
theorem dX7_gap_0 : decode cX7_gap 0 = .ok (.aload_n 0, 1) := by decide +kernel
theorem dX7_gap_1 : decode cX7_gap 1 = .ok (.getfield 12, 3) := by decide +kernel
theorem dX7_gap_4 : decode cX7_gap 4 = .ok (.iload_n 1, 1) := by decide +kernel
theorem dX7_gap_5 : decode cX7_gap 5 = .ok (.invokevirtual 126, 3) := by decide +kernel
theorem dX7_gap_8 : decode cX7_gap 8 = .ok (.ifCond .ne 6, 3) := by decide +kernel
theorem dX7_gap_11 : decode cX7_gap 11 = .ok (.bipush (-2), 2) := by decide +kernel
theorem dX7_gap_13 : decode cX7_gap 13 = .ok (.ireturn, 1) := by decide +kernel
theorem dX7_gap_14 : decode cX7_gap 14 = .ok (.aload_n 0, 1) := by decide +kernel
theorem dX7_gap_15 : decode cX7_gap 15 = .ok (.getfield 26, 3) := by decide +kernel
theorem dX7_gap_18 : decode cX7_gap 18 = .ok (.aload_n 0, 1) := by decide +kernel
theorem dX7_gap_19 : decode cX7_gap 19 = .ok (.getfield 12, 3) := by decide +kernel
theorem dX7_gap_22 : decode cX7_gap 22 = .ok (.iload_n 1, 1) := by decide +kernel
theorem dX7_gap_23 : decode cX7_gap 23 = .ok (.invokevirtual 178, 3) := by decide +kernel
theorem dX7_gap_26 : decode cX7_gap 26 = .ok (.aload_n 0, 1) := by decide +kernel
theorem dX7_gap_27 : decode cX7_gap 27 = .ok (.getfield 26, 3) := by decide +kernel
theorem dX7_gap_30 : decode cX7_gap 30 = .ok (.invokevirtual 181, 3) := by decide +kernel
theorem dX7_gap_33 : decode cX7_gap 33 = .ok (.astore 4, 2) := by decide +kernel
theorem dX7_gap_35 : decode cX7_gap 35 = .ok (.aload 4, 2) := by decide +kernel
theorem dX7_gap_37 : decode cX7_gap 37 = .ok (.iload_n 2, 1) := by decide +kernel
theorem dX7_gap_38 : decode cX7_gap 38 = .ok (.invokevirtual 208, 3) := by decide +kernel
theorem dX7_gap_41 : decode cX7_gap 41 = .ok (.ifCond .ne 6, 3) := by decide +kernel
theorem dX7_gap_44 : decode cX7_gap 44 = .ok (.bipush (-2), 2) := by decide +kernel
theorem dX7_gap_46 : decode cX7_gap 46 = .ok (.ireturn, 1) := by decide +kernel
theorem dX7_gap_47 : decode cX7_gap 47 = .ok (.iload_n 3, 1) := by decide +kernel
theorem dX7_gap_48 : decode cX7_gap 48 = .ok (.ifCond .eq 11, 3) := by decide +kernel
theorem dX7_gap_51 : decode cX7_gap 51 = .ok (.iload_n 3, 1) := by decide +kernel
theorem dX7_gap_52 : decode cX7_gap 52 = .ok (.iconst 1, 1) := by decide +kernel
theorem dX7_gap_53 : decode cX7_gap 53 = .ok (.if_icmp .eq 6, 3) := by decide +kernel
theorem dX7_gap_56 : decode cX7_gap 56 = .ok (.bipush (-3), 2) := by decide +kernel
theorem dX7_gap_58 : decode cX7_gap 58 = .ok (.ireturn, 1) := by decide +kernel
theorem dX7_gap_59 : decode cX7_gap 59 = .ok (.iload_n 3, 1) := by decide +kernel
theorem dX7_gap_60 : decode cX7_gap 60 = .ok (.ifCond .ne 12, 3) := by decide +kernel
theorem dX7_gap_63 : decode cX7_gap 63 = .ok (.aload 4, 2) := by decide +kernel
theorem dX7_gap_65 : decode cX7_gap 65 = .ok (.iload_n 2, 1) := by decide +kernel
theorem dX7_gap_66 : decode cX7_gap 66 = .ok (.invokevirtual 215, 3) := by decide +kernel
theorem dX7_gap_69 : decode cX7_gap 69 = .ok (.goto 9, 3) := by decide +kernel
theorem dX7_gap_72 : decode cX7_gap 72 = .ok (.aload 4, 2) := by decide +kernel
theorem dX7_gap_74 : decode cX7_gap 74 = .ok (.iload_n 2, 1) := by decide +kernel
theorem dX7_gap_75 : decode cX7_gap 75 = .ok (.invokevirtual 218, 3) := by decide +kernel
theorem dX7_gap_78 : decode cX7_gap 78 = .ok (.ireturn, 1) := by decide +kernel
theorem dX7_home_0 : decode cX7_home 0 = .ok (.iload_n 1, 1) := by decide +kernel
theorem dX7_home_1 : decode cX7_home 1 = .ok (.invokestatic 221, 3) := by decide +kernel
theorem dX7_home_4 : decode cX7_home 4 = .ok (.ifCond .eq 14, 3) := by decide +kernel
theorem dX7_home_7 : decode cX7_home 7 = .ok (.aload_n 0, 1) := by decide +kernel
theorem dX7_home_8 : decode cX7_home 8 = .ok (.getfield 12, 3) := by decide +kernel
theorem dX7_home_11 : decode cX7_home 11 = .ok (.iload_n 1, 1) := by decide +kernel
theorem dX7_home_12 : decode cX7_home 12 = .ok (.invokevirtual 224, 3) := by decide +kernel
theorem dX7_home_15 : decode cX7_home 15 = .ok (.goto 5, 3) := by decide +kernel
theorem dX7_home_18 : decode cX7_home 18 = .ok (.bipush (-3), 2) := by decide +kernel
theorem dX7_home_20 : decode cX7_home 20 = .ok (.ireturn, 1) := by decide +kernel
theorem dX7_where_0 : decode cX7_where 0 = .ok (.iload_n 1, 1) := by decide +kernel
theorem dX7_where_1 : decode cX7_where 1 = .ok (.invokestatic 221, 3) := by decide +kernel
theorem dX7_where_4 : decode cX7_where 4 = .ok (.ifCond .eq 14, 3) := by decide +kernel
theorem dX7_where_7 : decode cX7_where 7 = .ok (.aload_n 0, 1) := by decide +kernel
theorem dX7_where_8 : decode cX7_where 8 = .ok (.getfield 12, 3) := by decide +kernel
theorem dX7_where_11 : decode cX7_where 11 = .ok (.iload_n 1, 1) := by decide +kernel
theorem dX7_where_12 : decode cX7_where 12 = .ok (.invokevirtual 227, 3) := by decide +kernel
theorem dX7_where_15 : decode cX7_where 15 = .ok (.goto 5, 3) := by decide +kernel
theorem dX7_where_18 : decode cX7_where 18 = .ok (.bipush (-3), 2) := by decide +kernel
theorem dX7_where_20 : decode cX7_where 20 = .ok (.ireturn, 1) := by decide +kernel
theorem dX7_was_0 : decode cX7_was 0 = .ok (.iload_n 1, 1) := by decide +kernel
theorem dX7_was_1 : decode cX7_was 1 = .ok (.invokestatic 221, 3) := by decide +kernel
theorem dX7_was_4 : decode cX7_was 4 = .ok (.ifCond .eq 19, 3) := by decide +kernel
theorem dX7_was_7 : decode cX7_was 7 = .ok (.iload_n 2, 1) := by decide +kernel
theorem dX7_was_8 : decode cX7_was 8 = .ok (.ifCond .lt 15, 3) := by decide +kernel
theorem dX7_was_11 : decode cX7_was 11 = .ok (.aload_n 0, 1) := by decide +kernel
theorem dX7_was_12 : decode cX7_was 12 = .ok (.getfield 12, 3) := by decide +kernel
theorem dX7_was_15 : decode cX7_was 15 = .ok (.iload_n 1, 1) := by decide +kernel
theorem dX7_was_16 : decode cX7_was 16 = .ok (.iload_n 2, 1) := by decide +kernel
theorem dX7_was_17 : decode cX7_was 17 = .ok (.invokevirtual 230, 3) := by decide +kernel
theorem dX7_was_20 : decode cX7_was 20 = .ok (.goto 5, 3) := by decide +kernel
theorem dX7_was_23 : decode cX7_was 23 = .ok (.bipush (-3), 2) := by decide +kernel
theorem dX7_was_25 : decode cX7_was 25 = .ok (.ireturn, 1) := by decide +kernel
theorem dX7_move_0 : decode cX7_move 0 = .ok (.aload_n 0, 1) := by decide +kernel
theorem dX7_move_1 : decode cX7_move 1 = .ok (.getfield 12, 3) := by decide +kernel
theorem dX7_move_4 : decode cX7_move 4 = .ok (.invokevirtual 233, 3) := by decide +kernel
theorem dX7_move_7 : decode cX7_move 7 = .ok (.astore_n 3, 1) := by decide +kernel
theorem dX7_move_8 : decode cX7_move 8 = .ok (.aload_n 3, 1) := by decide +kernel
theorem dX7_move_9 : decode cX7_move 9 = .ok (.iload_n 1, 1) := by decide +kernel
theorem dX7_move_10 : decode cX7_move 10 = .ok (.invokevirtual 208, 3) := by decide +kernel
theorem dX7_move_13 : decode cX7_move 13 = .ok (.ifCond .ne 6, 3) := by decide +kernel
theorem dX7_move_16 : decode cX7_move 16 = .ok (.bipush (-2), 2) := by decide +kernel
theorem dX7_move_18 : decode cX7_move 18 = .ok (.ireturn, 1) := by decide +kernel
theorem dX7_move_19 : decode cX7_move 19 = .ok (.iload_n 2, 1) := by decide +kernel
theorem dX7_move_20 : decode cX7_move 20 = .ok (.tableswitch 59 0 3 #[32, 41, 47, 53], 32) := by decide +kernel
theorem dX7_move_52 : decode cX7_move 52 = .ok (.aload_n 0, 1) := by decide +kernel
theorem dX7_move_53 : decode cX7_move 53 = .ok (.getfield 12, 3) := by decide +kernel
theorem dX7_move_56 : decode cX7_move 56 = .ok (.iload_n 1, 1) := by decide +kernel
theorem dX7_move_57 : decode cX7_move 57 = .ok (.invokevirtual 236, 3) := by decide +kernel
theorem dX7_move_60 : decode cX7_move 60 = .ok (.ireturn, 1) := by decide +kernel
theorem dX7_move_61 : decode cX7_move 61 = .ok (.aload_n 3, 1) := by decide +kernel
theorem dX7_move_62 : decode cX7_move 62 = .ok (.iload_n 1, 1) := by decide +kernel
theorem dX7_move_63 : decode cX7_move 63 = .ok (.invokevirtual 215, 3) := by decide +kernel
theorem dX7_move_66 : decode cX7_move 66 = .ok (.ireturn, 1) := by decide +kernel
theorem dX7_move_67 : decode cX7_move 67 = .ok (.aload_n 3, 1) := by decide +kernel
theorem dX7_move_68 : decode cX7_move 68 = .ok (.iload_n 1, 1) := by decide +kernel
theorem dX7_move_69 : decode cX7_move 69 = .ok (.invokevirtual 218, 3) := by decide +kernel
theorem dX7_move_72 : decode cX7_move 72 = .ok (.ireturn, 1) := by decide +kernel
theorem dX7_move_73 : decode cX7_move 73 = .ok (.aload_n 3, 1) := by decide +kernel
theorem dX7_move_74 : decode cX7_move 74 = .ok (.iload_n 1, 1) := by decide +kernel
theorem dX7_move_75 : decode cX7_move 75 = .ok (.invokevirtual 239, 3) := by decide +kernel
theorem dX7_move_78 : decode cX7_move 78 = .ok (.ireturn, 1) := by decide +kernel
theorem dX7_move_79 : decode cX7_move 79 = .ok (.bipush (-3), 2) := by decide +kernel
theorem dX7_move_81 : decode cX7_move 81 = .ok (.ireturn, 1) := by decide +kernel
theorem dX7_trail_0 : decode cX7_trail 0 = .ok (.iload_n 1, 1) := by decide +kernel
theorem dX7_trail_1 : decode cX7_trail 1 = .ok (.invokestatic 221, 3) := by decide +kernel
theorem dX7_trail_4 : decode cX7_trail 4 = .ok (.ifCond .eq 8, 3) := by decide +kernel
theorem dX7_trail_7 : decode cX7_trail 7 = .ok (.iload_n 2, 1) := by decide +kernel
theorem dX7_trail_8 : decode cX7_trail 8 = .ok (.iconst (-1), 1) := by decide +kernel
theorem dX7_trail_9 : decode cX7_trail 9 = .ok (.if_icmp .ge 6, 3) := by decide +kernel
theorem dX7_trail_12 : decode cX7_trail 12 = .ok (.bipush (-3), 2) := by decide +kernel
theorem dX7_trail_14 : decode cX7_trail 14 = .ok (.ireturn, 1) := by decide +kernel
theorem dX7_trail_15 : decode cX7_trail 15 = .ok (.aload_n 0, 1) := by decide +kernel
theorem dX7_trail_16 : decode cX7_trail 16 = .ok (.getfield 12, 3) := by decide +kernel
theorem dX7_trail_19 : decode cX7_trail 19 = .ok (.iload_n 1, 1) := by decide +kernel
theorem dX7_trail_20 : decode cX7_trail 20 = .ok (.iload_n 2, 1) := by decide +kernel
theorem dX7_trail_21 : decode cX7_trail 21 = .ok (.invokevirtual 242, 3) := by decide +kernel
theorem dX7_trail_24 : decode cX7_trail 24 = .ok (.ireturn, 1) := by decide +kernel
theorem dX7_row_0 : decode cX7_row 0 = .ok (.aload_n 0, 1) := by decide +kernel
theorem dX7_row_1 : decode cX7_row 1 = .ok (.iload_n 1, 1) := by decide +kernel
theorem dX7_row_2 : decode cX7_row 2 = .ok (.iload_n 2, 1) := by decide +kernel
theorem dX7_row_3 : decode cX7_row 3 = .ok (.iload_n 3, 1) := by decide +kernel
theorem dX7_row_4 : decode cX7_row 4 = .ok (.invokevirtual 103, 3) := by decide +kernel
theorem dX7_row_7 : decode cX7_row 7 = .ok (.ireturn, 1) := by decide +kernel
theorem dX7_addRow_0 : decode cX7_addRow 0 = .ok (.iload_n 1, 1) := by decide +kernel
theorem dX7_addRow_1 : decode cX7_addRow 1 = .ok (.invokestatic 187, 3) := by decide +kernel
theorem dX7_addRow_4 : decode cX7_addRow 4 = .ok (.ifCond .ne 6, 3) := by decide +kernel
theorem dX7_addRow_7 : decode cX7_addRow 7 = .ok (.bipush (-2), 2) := by decide +kernel
theorem dX7_addRow_9 : decode cX7_addRow 9 = .ok (.ireturn, 1) := by decide +kernel
theorem dX7_addRow_10 : decode cX7_addRow 10 = .ok (.iload_n 2, 1) := by decide +kernel
theorem dX7_addRow_11 : decode cX7_addRow 11 = .ok (.iload_n 3, 1) := by decide +kernel
theorem dX7_addRow_12 : decode cX7_addRow 12 = .ok (.invokestatic 245, 3) := by decide +kernel
theorem dX7_addRow_15 : decode cX7_addRow 15 = .ok (.ifCond .ne 6, 3) := by decide +kernel
theorem dX7_addRow_18 : decode cX7_addRow 18 = .ok (.bipush (-3), 2) := by decide +kernel
theorem dX7_addRow_20 : decode cX7_addRow 20 = .ok (.ireturn, 1) := by decide +kernel
theorem dX7_addRow_21 : decode cX7_addRow 21 = .ok (.aload_n 0, 1) := by decide +kernel
theorem dX7_addRow_22 : decode cX7_addRow 22 = .ok (.getfield 35, 3) := by decide +kernel
theorem dX7_addRow_25 : decode cX7_addRow 25 = .ok (.iload_n 1, 1) := by decide +kernel
theorem dX7_addRow_26 : decode cX7_addRow 26 = .ok (.iload_n 2, 1) := by decide +kernel
theorem dX7_addRow_27 : decode cX7_addRow 27 = .ok (.iload_n 3, 1) := by decide +kernel
theorem dX7_addRow_28 : decode cX7_addRow 28 = .ok (.invokevirtual 249, 3) := by decide +kernel
theorem dX7_addRow_31 : decode cX7_addRow 31 = .ok (.ifCond .eq 15, 3) := by decide +kernel
theorem dX7_addRow_34 : decode cX7_addRow 34 = .ok (.aload_n 0, 1) := by decide +kernel
theorem dX7_addRow_35 : decode cX7_addRow 35 = .ok (.getfield 35, 3) := by decide +kernel
theorem dX7_addRow_38 : decode cX7_addRow 38 = .ok (.invokevirtual 184, 3) := by decide +kernel
theorem dX7_addRow_41 : decode cX7_addRow 41 = .ok (.iconst 1, 1) := by decide +kernel
theorem dX7_addRow_42 : decode cX7_addRow 42 = .ok (.isub, 1) := by decide +kernel
theorem dX7_addRow_43 : decode cX7_addRow 43 = .ok (.goto 5, 3) := by decide +kernel
theorem dX7_addRow_46 : decode cX7_addRow 46 = .ok (.bipush (-5), 2) := by decide +kernel
theorem dX7_addRow_48 : decode cX7_addRow 48 = .ok (.ireturn, 1) := by decide +kernel
theorem dX7_clear_0 : decode cX7_clear 0 = .ok (.aload_n 0, 1) := by decide +kernel
theorem dX7_clear_1 : decode cX7_clear 1 = .ok (.getfield 35, 3) := by decide +kernel
theorem dX7_clear_4 : decode cX7_clear 4 = .ok (.invokevirtual 184, 3) := by decide +kernel
theorem dX7_clear_7 : decode cX7_clear 7 = .ok (.istore_n 1, 1) := by decide +kernel
theorem dX7_clear_8 : decode cX7_clear 8 = .ok (.aload_n 0, 1) := by decide +kernel
theorem dX7_clear_9 : decode cX7_clear 9 = .ok (.getfield 35, 3) := by decide +kernel
theorem dX7_clear_12 : decode cX7_clear 12 = .ok (.iconst 0, 1) := by decide +kernel
theorem dX7_clear_13 : decode cX7_clear 13 = .ok (.invokevirtual 112, 3) := by decide +kernel
theorem dX7_clear_16 : decode cX7_clear 16 = .ok (.iload_n 1, 1) := by decide +kernel
theorem dX7_clear_17 : decode cX7_clear 17 = .ok (.ireturn, 1) := by decide +kernel
theorem dX7_listed_0 : decode cX7_listed 0 = .ok (.aload_n 0, 1) := by decide +kernel
theorem dX7_listed_1 : decode cX7_listed 1 = .ok (.getfield 35, 3) := by decide +kernel
theorem dX7_listed_4 : decode cX7_listed 4 = .ok (.iload_n 1, 1) := by decide +kernel
theorem dX7_listed_5 : decode cX7_listed 5 = .ok (.invokevirtual 208, 3) := by decide +kernel
theorem dX7_listed_8 : decode cX7_listed 8 = .ok (.ifCond .ne 6, 3) := by decide +kernel
theorem dX7_listed_11 : decode cX7_listed 11 = .ok (.bipush (-2), 2) := by decide +kernel
theorem dX7_listed_13 : decode cX7_listed 13 = .ok (.ireturn, 1) := by decide +kernel
theorem dX7_listed_14 : decode cX7_listed 14 = .ok (.aload_n 0, 1) := by decide +kernel
theorem dX7_listed_15 : decode cX7_listed 15 = .ok (.getfield 35, 3) := by decide +kernel
theorem dX7_listed_18 : decode cX7_listed 18 = .ok (.iload_n 1, 1) := by decide +kernel
theorem dX7_listed_19 : decode cX7_listed 19 = .ok (.invokevirtual 239, 3) := by decide +kernel
theorem dX7_listed_22 : decode cX7_listed 22 = .ok (.istore_n 3, 1) := by decide +kernel
theorem dX7_listed_23 : decode cX7_listed 23 = .ok (.aload_n 0, 1) := by decide +kernel
theorem dX7_listed_24 : decode cX7_listed 24 = .ok (.getfield 35, 3) := by decide +kernel
theorem dX7_listed_27 : decode cX7_listed 27 = .ok (.iload_n 1, 1) := by decide +kernel
theorem dX7_listed_28 : decode cX7_listed 28 = .ok (.invokevirtual 215, 3) := by decide +kernel
theorem dX7_listed_31 : decode cX7_listed 31 = .ok (.istore 4, 2) := by decide +kernel
theorem dX7_listed_33 : decode cX7_listed 33 = .ok (.aload_n 0, 1) := by decide +kernel
theorem dX7_listed_34 : decode cX7_listed 34 = .ok (.getfield 35, 3) := by decide +kernel
theorem dX7_listed_37 : decode cX7_listed 37 = .ok (.iload_n 1, 1) := by decide +kernel
theorem dX7_listed_38 : decode cX7_listed 38 = .ok (.invokevirtual 218, 3) := by decide +kernel
theorem dX7_listed_41 : decode cX7_listed 41 = .ok (.istore 5, 2) := by decide +kernel
theorem dX7_listed_43 : decode cX7_listed 43 = .ok (.iload_n 2, 1) := by decide +kernel
theorem dX7_listed_44 : decode cX7_listed 44 = .ok (.tableswitch 103 0 5 #[40, 42, 45, 48, 64, 97], 40) := by decide +kernel
theorem dX7_listed_84 : decode cX7_listed 84 = .ok (.iload_n 3, 1) := by decide +kernel
theorem dX7_listed_85 : decode cX7_listed 85 = .ok (.ireturn, 1) := by decide +kernel
theorem dX7_listed_86 : decode cX7_listed 86 = .ok (.iload 4, 2) := by decide +kernel
theorem dX7_listed_88 : decode cX7_listed 88 = .ok (.ireturn, 1) := by decide +kernel
theorem dX7_listed_89 : decode cX7_listed 89 = .ok (.iload 5, 2) := by decide +kernel
theorem dX7_listed_91 : decode cX7_listed 91 = .ok (.ireturn, 1) := by decide +kernel
theorem dX7_listed_92 : decode cX7_listed 92 = .ok (.aload_n 0, 1) := by decide +kernel
theorem dX7_listed_93 : decode cX7_listed 93 = .ok (.getfield 12, 3) := by decide +kernel
theorem dX7_listed_96 : decode cX7_listed 96 = .ok (.invokevirtual 169, 3) := by decide +kernel
theorem dX7_listed_99 : decode cX7_listed 99 = .ok (.iload_n 3, 1) := by decide +kernel
theorem dX7_listed_100 : decode cX7_listed 100 = .ok (.iload 4, 2) := by decide +kernel
theorem dX7_listed_102 : decode cX7_listed 102 = .ok (.iload 5, 2) := by decide +kernel
theorem dX7_listed_104 : decode cX7_listed 104 = .ok (.invokevirtual 175, 3) := by decide +kernel
theorem dX7_listed_107 : decode cX7_listed 107 = .ok (.ireturn, 1) := by decide +kernel
theorem dX7_listed_108 : decode cX7_listed 108 = .ok (.aload_n 0, 1) := by decide +kernel
theorem dX7_listed_109 : decode cX7_listed 109 = .ok (.getfield 12, 3) := by decide +kernel
theorem dX7_listed_112 : decode cX7_listed 112 = .ok (.invokevirtual 169, 3) := by decide +kernel
theorem dX7_listed_115 : decode cX7_listed 115 = .ok (.bipush (-100), 2) := by decide +kernel
theorem dX7_listed_117 : decode cX7_listed 117 = .ok (.iload 4, 2) := by decide +kernel
theorem dX7_listed_119 : decode cX7_listed 119 = .ok (.iload 5, 2) := by decide +kernel
theorem dX7_listed_121 : decode cX7_listed 121 = .ok (.invokevirtual 175, 3) := by decide +kernel
theorem dX7_listed_124 : decode cX7_listed 124 = .ok (.aload_n 0, 1) := by decide +kernel
theorem dX7_listed_125 : decode cX7_listed 125 = .ok (.getfield 12, 3) := by decide +kernel
theorem dX7_listed_128 : decode cX7_listed 128 = .ok (.invokevirtual 169, 3) := by decide +kernel
theorem dX7_listed_131 : decode cX7_listed 131 = .ok (.iload_n 3, 1) := by decide +kernel
theorem dX7_listed_132 : decode cX7_listed 132 = .ok (.iload 4, 2) := by decide +kernel
theorem dX7_listed_134 : decode cX7_listed 134 = .ok (.iload 5, 2) := by decide +kernel
theorem dX7_listed_136 : decode cX7_listed 136 = .ok (.invokevirtual 175, 3) := by decide +kernel
theorem dX7_listed_139 : decode cX7_listed 139 = .ok (.isub, 1) := by decide +kernel
theorem dX7_listed_140 : decode cX7_listed 140 = .ok (.ireturn, 1) := by decide +kernel
theorem dX7_listed_141 : decode cX7_listed 141 = .ok (.aload_n 0, 1) := by decide +kernel
theorem dX7_listed_142 : decode cX7_listed 142 = .ok (.iload_n 1, 1) := by decide +kernel
theorem dX7_listed_143 : decode cX7_listed 143 = .ok (.invokevirtual 253, 3) := by decide +kernel
theorem dX7_listed_146 : decode cX7_listed 146 = .ok (.ireturn, 1) := by decide +kernel
theorem dX7_listed_147 : decode cX7_listed 147 = .ok (.bipush (-3), 2) := by decide +kernel
theorem dX7_listed_149 : decode cX7_listed 149 = .ok (.ireturn, 1) := by decide +kernel
theorem dX7_lowestClash_0 : decode cX7_lowestClash 0 = .ok (.iconst 0, 1) := by decide +kernel
theorem dX7_lowestClash_1 : decode cX7_lowestClash 1 = .ok (.istore_n 2, 1) := by decide +kernel
theorem dX7_lowestClash_2 : decode cX7_lowestClash 2 = .ok (.iload_n 2, 1) := by decide +kernel
theorem dX7_lowestClash_3 : decode cX7_lowestClash 3 = .ok (.aload_n 0, 1) := by decide +kernel
theorem dX7_lowestClash_4 : decode cX7_lowestClash 4 = .ok (.getfield 35, 3) := by decide +kernel
theorem dX7_lowestClash_7 : decode cX7_lowestClash 7 = .ok (.invokevirtual 184, 3) := by decide +kernel
theorem dX7_lowestClash_10 : decode cX7_lowestClash 10 = .ok (.if_icmp .ge 20, 3) := by decide +kernel
theorem dX7_lowestClash_13 : decode cX7_lowestClash 13 = .ok (.aload_n 0, 1) := by decide +kernel
theorem dX7_lowestClash_14 : decode cX7_lowestClash 14 = .ok (.iload_n 1, 1) := by decide +kernel
theorem dX7_lowestClash_15 : decode cX7_lowestClash 15 = .ok (.iload_n 2, 1) := by decide +kernel
theorem dX7_lowestClash_16 : decode cX7_lowestClash 16 = .ok (.invokevirtual 256, 3) := by decide +kernel
theorem dX7_lowestClash_19 : decode cX7_lowestClash 19 = .ok (.ifCond .eq 5, 3) := by decide +kernel
theorem dX7_lowestClash_22 : decode cX7_lowestClash 22 = .ok (.iload_n 2, 1) := by decide +kernel
theorem dX7_lowestClash_23 : decode cX7_lowestClash 23 = .ok (.ireturn, 1) := by decide +kernel
theorem dX7_lowestClash_24 : decode cX7_lowestClash 24 = .ok (.iinc 2 1, 3) := by decide +kernel
theorem dX7_lowestClash_27 : decode cX7_lowestClash 27 = .ok (.goto (-25), 3) := by decide +kernel
theorem dX7_lowestClash_30 : decode cX7_lowestClash 30 = .ok (.iconst (-1), 1) := by decide +kernel
theorem dX7_lowestClash_31 : decode cX7_lowestClash 31 = .ok (.ireturn, 1) := by decide +kernel
theorem dX7_clashingPairs_0 : decode cX7_clashingPairs 0 = .ok (.iconst 0, 1) := by decide +kernel
theorem dX7_clashingPairs_1 : decode cX7_clashingPairs 1 = .ok (.istore_n 1, 1) := by decide +kernel
theorem dX7_clashingPairs_2 : decode cX7_clashingPairs 2 = .ok (.iconst 0, 1) := by decide +kernel
theorem dX7_clashingPairs_3 : decode cX7_clashingPairs 3 = .ok (.istore_n 2, 1) := by decide +kernel
theorem dX7_clashingPairs_4 : decode cX7_clashingPairs 4 = .ok (.iload_n 2, 1) := by decide +kernel
theorem dX7_clashingPairs_5 : decode cX7_clashingPairs 5 = .ok (.aload_n 0, 1) := by decide +kernel
theorem dX7_clashingPairs_6 : decode cX7_clashingPairs 6 = .ok (.getfield 35, 3) := by decide +kernel
theorem dX7_clashingPairs_9 : decode cX7_clashingPairs 9 = .ok (.invokevirtual 184, 3) := by decide +kernel
theorem dX7_clashingPairs_12 : decode cX7_clashingPairs 12 = .ok (.if_icmp .ge 42, 3) := by decide +kernel
theorem dX7_clashingPairs_15 : decode cX7_clashingPairs 15 = .ok (.iload_n 2, 1) := by decide +kernel
theorem dX7_clashingPairs_16 : decode cX7_clashingPairs 16 = .ok (.iconst 1, 1) := by decide +kernel
theorem dX7_clashingPairs_17 : decode cX7_clashingPairs 17 = .ok (.iadd, 1) := by decide +kernel
theorem dX7_clashingPairs_18 : decode cX7_clashingPairs 18 = .ok (.istore_n 3, 1) := by decide +kernel
theorem dX7_clashingPairs_19 : decode cX7_clashingPairs 19 = .ok (.iload_n 3, 1) := by decide +kernel
theorem dX7_clashingPairs_20 : decode cX7_clashingPairs 20 = .ok (.aload_n 0, 1) := by decide +kernel
theorem dX7_clashingPairs_21 : decode cX7_clashingPairs 21 = .ok (.getfield 35, 3) := by decide +kernel
theorem dX7_clashingPairs_24 : decode cX7_clashingPairs 24 = .ok (.invokevirtual 184, 3) := by decide +kernel
theorem dX7_clashingPairs_27 : decode cX7_clashingPairs 27 = .ok (.if_icmp .ge 21, 3) := by decide +kernel
theorem dX7_clashingPairs_30 : decode cX7_clashingPairs 30 = .ok (.aload_n 0, 1) := by decide +kernel
theorem dX7_clashingPairs_31 : decode cX7_clashingPairs 31 = .ok (.iload_n 2, 1) := by decide +kernel
theorem dX7_clashingPairs_32 : decode cX7_clashingPairs 32 = .ok (.iload_n 3, 1) := by decide +kernel
theorem dX7_clashingPairs_33 : decode cX7_clashingPairs 33 = .ok (.invokevirtual 256, 3) := by decide +kernel
theorem dX7_clashingPairs_36 : decode cX7_clashingPairs 36 = .ok (.ifCond .eq 6, 3) := by decide +kernel
theorem dX7_clashingPairs_39 : decode cX7_clashingPairs 39 = .ok (.iinc 1 1, 3) := by decide +kernel
theorem dX7_clashingPairs_42 : decode cX7_clashingPairs 42 = .ok (.iinc 3 1, 3) := by decide +kernel
theorem dX7_clashingPairs_45 : decode cX7_clashingPairs 45 = .ok (.goto (-26), 3) := by decide +kernel
theorem dX7_clashingPairs_48 : decode cX7_clashingPairs 48 = .ok (.iinc 2 1, 3) := by decide +kernel
theorem dX7_clashingPairs_51 : decode cX7_clashingPairs 51 = .ok (.goto (-47), 3) := by decide +kernel
theorem dX7_clashingPairs_54 : decode cX7_clashingPairs 54 = .ok (.iload_n 1, 1) := by decide +kernel
theorem dX7_clashingPairs_55 : decode cX7_clashingPairs 55 = .ok (.ireturn, 1) := by decide +kernel
theorem dX7_clash_0 : decode cX7_clash 0 = .ok (.aload_n 0, 1) := by decide +kernel
theorem dX7_clash_1 : decode cX7_clash 1 = .ok (.getfield 35, 3) := by decide +kernel
theorem dX7_clash_4 : decode cX7_clash 4 = .ok (.iload_n 1, 1) := by decide +kernel
theorem dX7_clash_5 : decode cX7_clash 5 = .ok (.invokevirtual 239, 3) := by decide +kernel
theorem dX7_clash_8 : decode cX7_clash 8 = .ok (.aload_n 0, 1) := by decide +kernel
theorem dX7_clash_9 : decode cX7_clash 9 = .ok (.getfield 35, 3) := by decide +kernel
theorem dX7_clash_12 : decode cX7_clash 12 = .ok (.iload_n 2, 1) := by decide +kernel
theorem dX7_clash_13 : decode cX7_clash 13 = .ok (.invokevirtual 239, 3) := by decide +kernel
theorem dX7_clash_16 : decode cX7_clash 16 = .ok (.if_icmp .eq 34, 3) := by decide +kernel
theorem dX7_clash_19 : decode cX7_clash 19 = .ok (.aload_n 0, 1) := by decide +kernel
theorem dX7_clash_20 : decode cX7_clash 20 = .ok (.getfield 35, 3) := by decide +kernel
theorem dX7_clash_23 : decode cX7_clash 23 = .ok (.iload_n 1, 1) := by decide +kernel
theorem dX7_clash_24 : decode cX7_clash 24 = .ok (.aload_n 0, 1) := by decide +kernel
theorem dX7_clash_25 : decode cX7_clash 25 = .ok (.getfield 35, 3) := by decide +kernel
theorem dX7_clash_28 : decode cX7_clash 28 = .ok (.iload_n 2, 1) := by decide +kernel
theorem dX7_clash_29 : decode cX7_clash 29 = .ok (.invokevirtual 215, 3) := by decide +kernel
theorem dX7_clash_32 : decode cX7_clash 32 = .ok (.aload_n 0, 1) := by decide +kernel
theorem dX7_clash_33 : decode cX7_clash 33 = .ok (.getfield 35, 3) := by decide +kernel
theorem dX7_clash_36 : decode cX7_clash 36 = .ok (.iload_n 2, 1) := by decide +kernel
theorem dX7_clash_37 : decode cX7_clash 37 = .ok (.invokevirtual 218, 3) := by decide +kernel
theorem dX7_clash_40 : decode cX7_clash 40 = .ok (.invokevirtual 259, 3) := by decide +kernel
theorem dX7_clash_43 : decode cX7_clash 43 = .ok (.ifCond .eq 7, 3) := by decide +kernel
theorem dX7_clash_46 : decode cX7_clash 46 = .ok (.iconst 1, 1) := by decide +kernel
theorem dX7_clash_47 : decode cX7_clash 47 = .ok (.goto 4, 3) := by decide +kernel
theorem dX7_clash_50 : decode cX7_clash 50 = .ok (.iconst 0, 1) := by decide +kernel
theorem dX7_clash_51 : decode cX7_clash 51 = .ok (.ireturn, 1) := by decide +kernel
theorem dX7_unlisted_0 : decode cX7_unlisted 0 = .ok (.iload_n 1, 1) := by decide +kernel
theorem dX7_unlisted_1 : decode cX7_unlisted 1 = .ok (.invokestatic 187, 3) := by decide +kernel
theorem dX7_unlisted_4 : decode cX7_unlisted 4 = .ok (.ifCond .ne 6, 3) := by decide +kernel
theorem dX7_unlisted_7 : decode cX7_unlisted 7 = .ok (.bipush (-2), 2) := by decide +kernel
theorem dX7_unlisted_9 : decode cX7_unlisted 9 = .ok (.ireturn, 1) := by decide +kernel
theorem dX7_unlisted_10 : decode cX7_unlisted 10 = .ok (.aload_n 0, 1) := by decide +kernel
theorem dX7_unlisted_11 : decode cX7_unlisted 11 = .ok (.getfield 12, 3) := by decide +kernel
theorem dX7_unlisted_14 : decode cX7_unlisted 14 = .ok (.invokevirtual 169, 3) := by decide +kernel
theorem dX7_unlisted_17 : decode cX7_unlisted 17 = .ok (.astore_n 2, 1) := by decide +kernel
theorem dX7_unlisted_18 : decode cX7_unlisted 18 = .ok (.iconst 0, 1) := by decide +kernel
theorem dX7_unlisted_19 : decode cX7_unlisted 19 = .ok (.istore_n 3, 1) := by decide +kernel
theorem dX7_unlisted_20 : decode cX7_unlisted 20 = .ok (.iconst 0, 1) := by decide +kernel
theorem dX7_unlisted_21 : decode cX7_unlisted 21 = .ok (.istore 4, 2) := by decide +kernel
theorem dX7_unlisted_23 : decode cX7_unlisted 23 = .ok (.iload 4, 2) := by decide +kernel
theorem dX7_unlisted_25 : decode cX7_unlisted 25 = .ok (.aload_n 2, 1) := by decide +kernel
theorem dX7_unlisted_26 : decode cX7_unlisted 26 = .ok (.invokevirtual 184, 3) := by decide +kernel
theorem dX7_unlisted_29 : decode cX7_unlisted 29 = .ok (.if_icmp .ge 42, 3) := by decide +kernel
theorem dX7_unlisted_32 : decode cX7_unlisted 32 = .ok (.aload_n 2, 1) := by decide +kernel
theorem dX7_unlisted_33 : decode cX7_unlisted 33 = .ok (.iload 4, 2) := by decide +kernel
theorem dX7_unlisted_35 : decode cX7_unlisted 35 = .ok (.invokevirtual 239, 3) := by decide +kernel
theorem dX7_unlisted_38 : decode cX7_unlisted 38 = .ok (.iload_n 1, 1) := by decide +kernel
theorem dX7_unlisted_39 : decode cX7_unlisted 39 = .ok (.if_icmp .ne 26, 3) := by decide +kernel
theorem dX7_unlisted_42 : decode cX7_unlisted 42 = .ok (.iload_n 3, 1) := by decide +kernel
theorem dX7_unlisted_43 : decode cX7_unlisted 43 = .ok (.aload_n 0, 1) := by decide +kernel
theorem dX7_unlisted_44 : decode cX7_unlisted 44 = .ok (.getfield 35, 3) := by decide +kernel
theorem dX7_unlisted_47 : decode cX7_unlisted 47 = .ok (.iload_n 1, 1) := by decide +kernel
theorem dX7_unlisted_48 : decode cX7_unlisted 48 = .ok (.aload_n 2, 1) := by decide +kernel
theorem dX7_unlisted_49 : decode cX7_unlisted 49 = .ok (.iload 4, 2) := by decide +kernel
theorem dX7_unlisted_51 : decode cX7_unlisted 51 = .ok (.invokevirtual 215, 3) := by decide +kernel
theorem dX7_unlisted_54 : decode cX7_unlisted 54 = .ok (.aload_n 2, 1) := by decide +kernel
theorem dX7_unlisted_55 : decode cX7_unlisted 55 = .ok (.iload 4, 2) := by decide +kernel
theorem dX7_unlisted_57 : decode cX7_unlisted 57 = .ok (.invokevirtual 218, 3) := by decide +kernel
theorem dX7_unlisted_60 : decode cX7_unlisted 60 = .ok (.invokevirtual 262, 3) := by decide +kernel
theorem dX7_unlisted_63 : decode cX7_unlisted 63 = .ok (.iadd, 1) := by decide +kernel
theorem dX7_unlisted_64 : decode cX7_unlisted 64 = .ok (.istore_n 3, 1) := by decide +kernel
theorem dX7_unlisted_65 : decode cX7_unlisted 65 = .ok (.iinc 4 1, 3) := by decide +kernel
theorem dX7_unlisted_68 : decode cX7_unlisted 68 = .ok (.goto (-45), 3) := by decide +kernel
theorem dX7_unlisted_71 : decode cX7_unlisted 71 = .ok (.iload_n 3, 1) := by decide +kernel
theorem dX7_unlisted_72 : decode cX7_unlisted 72 = .ok (.ireturn, 1) := by decide +kernel
theorem dX7_label_0 : decode cX7_label 0 = .ok (.iload_n 1, 1) := by decide +kernel
theorem dX7_label_1 : decode cX7_label 1 = .ok (.invokestatic 187, 3) := by decide +kernel
theorem dX7_label_4 : decode cX7_label 4 = .ok (.ifCond .ne 6, 3) := by decide +kernel
theorem dX7_label_7 : decode cX7_label 7 = .ok (.bipush (-2), 2) := by decide +kernel
theorem dX7_label_9 : decode cX7_label 9 = .ok (.ireturn, 1) := by decide +kernel
theorem dX7_label_10 : decode cX7_label 10 = .ok (.aload_n 0, 1) := by decide +kernel
theorem dX7_label_11 : decode cX7_label 11 = .ok (.getfield 53, 3) := by decide +kernel
theorem dX7_label_14 : decode cX7_label 14 = .ok (.aload_n 0, 1) := by decide +kernel
theorem dX7_label_15 : decode cX7_label 15 = .ok (.getfield 12, 3) := by decide +kernel
theorem dX7_label_18 : decode cX7_label 18 = .ok (.iload_n 1, 1) := by decide +kernel
theorem dX7_label_19 : decode cX7_label 19 = .ok (.invokevirtual 265, 3) := by decide +kernel
theorem dX7_label_22 : decode cX7_label 22 = .ok (.aload_n 0, 1) := by decide +kernel
theorem dX7_label_23 : decode cX7_label 23 = .ok (.getfield 53, 3) := by decide +kernel
theorem dX7_label_26 : decode cX7_label 26 = .ok (.invokevirtual 268, 3) := by decide +kernel
theorem dX7_label_29 : decode cX7_label 29 = .ok (.sipush 200, 3) := by decide +kernel
theorem dX7_label_32 : decode cX7_label 32 = .ok (.if_icmp .le 6, 3) := by decide +kernel
theorem dX7_label_35 : decode cX7_label 35 = .ok (.bipush (-5), 2) := by decide +kernel
theorem dX7_label_37 : decode cX7_label 37 = .ok (.ireturn, 1) := by decide +kernel
theorem dX7_label_38 : decode cX7_label 38 = .ok (.aload_n 0, 1) := by decide +kernel
theorem dX7_label_39 : decode cX7_label 39 = .ok (.getfield 49, 3) := by decide +kernel
theorem dX7_label_42 : decode cX7_label 42 = .ok (.aload_n 0, 1) := by decide +kernel
theorem dX7_label_43 : decode cX7_label 43 = .ok (.getfield 53, 3) := by decide +kernel
theorem dX7_label_46 : decode cX7_label 46 = .ok (.invokevirtual 269, 3) := by decide +kernel
theorem dX7_label_49 : decode cX7_label 49 = .ok (.aload_n 0, 1) := by decide +kernel
theorem dX7_label_50 : decode cX7_label 50 = .ok (.getfield 49, 3) := by decide +kernel
theorem dX7_label_53 : decode cX7_label 53 = .ok (.invokevirtual 268, 3) := by decide +kernel
theorem dX7_label_56 : decode cX7_label 56 = .ok (.ireturn, 1) := by decide +kernel
theorem dX7_paper_0 : decode cX7_paper 0 = .ok (.aload_n 0, 1) := by decide +kernel
theorem dX7_paper_1 : decode cX7_paper 1 = .ok (.getfield 49, 3) := by decide +kernel
theorem dX7_paper_4 : decode cX7_paper 4 = .ok (.iload_n 1, 1) := by decide +kernel
theorem dX7_paper_5 : decode cX7_paper 5 = .ok (.invokevirtual 273, 3) := by decide +kernel
theorem dX7_paper_8 : decode cX7_paper 8 = .ok (.ireturn, 1) := by decide +kernel
theorem dX7_plan_0 : decode cX7_plan 0 = .ok (.aload_n 0, 1) := by decide +kernel
theorem dX7_plan_1 : decode cX7_plan 1 = .ok (.getfield 12, 3) := by decide +kernel
theorem dX7_plan_4 : decode cX7_plan 4 = .ok (.iload_n 1, 1) := by decide +kernel
theorem dX7_plan_5 : decode cX7_plan 5 = .ok (.invokevirtual 126, 3) := by decide +kernel
theorem dX7_plan_8 : decode cX7_plan 8 = .ok (.ifCond .ne 6, 3) := by decide +kernel
theorem dX7_plan_11 : decode cX7_plan 11 = .ok (.bipush (-2), 2) := by decide +kernel
theorem dX7_plan_13 : decode cX7_plan 13 = .ok (.ireturn, 1) := by decide +kernel
theorem dX7_plan_14 : decode cX7_plan 14 = .ok (.iload_n 2, 1) := by decide +kernel
theorem dX7_plan_15 : decode cX7_plan 15 = .ok (.iconst (-1), 1) := by decide +kernel
theorem dX7_plan_16 : decode cX7_plan 16 = .ok (.if_icmp .lt 17, 3) := by decide +kernel
theorem dX7_plan_19 : decode cX7_plan 19 = .ok (.iload_n 2, 1) := by decide +kernel
theorem dX7_plan_20 : decode cX7_plan 20 = .ok (.iconst (-1), 1) := by decide +kernel
theorem dX7_plan_21 : decode cX7_plan 21 = .ok (.if_icmp .eq 15, 3) := by decide +kernel
theorem dX7_plan_24 : decode cX7_plan 24 = .ok (.iload_n 3, 1) := by decide +kernel
theorem dX7_plan_25 : decode cX7_plan 25 = .ok (.ifCond .lt 8, 3) := by decide +kernel
theorem dX7_plan_28 : decode cX7_plan 28 = .ok (.iload_n 3, 1) := by decide +kernel
theorem dX7_plan_29 : decode cX7_plan 29 = .ok (.iconst 2, 1) := by decide +kernel
theorem dX7_plan_30 : decode cX7_plan 30 = .ok (.if_icmp .le 6, 3) := by decide +kernel
theorem dX7_plan_33 : decode cX7_plan 33 = .ok (.bipush (-3), 2) := by decide +kernel
theorem dX7_plan_35 : decode cX7_plan 35 = .ok (.ireturn, 1) := by decide +kernel
theorem dX7_plan_36 : decode cX7_plan 36 = .ok (.aload_n 0, 1) := by decide +kernel
theorem dX7_plan_37 : decode cX7_plan 37 = .ok (.getfield 26, 3) := by decide +kernel
theorem dX7_plan_40 : decode cX7_plan 40 = .ok (.aload_n 0, 1) := by decide +kernel
theorem dX7_plan_41 : decode cX7_plan 41 = .ok (.getfield 12, 3) := by decide +kernel
theorem dX7_plan_44 : decode cX7_plan 44 = .ok (.iload_n 1, 1) := by decide +kernel
theorem dX7_plan_45 : decode cX7_plan 45 = .ok (.invokevirtual 129, 3) := by decide +kernel
theorem dX7_plan_48 : decode cX7_plan 48 = .ok (.aload_n 0, 1) := by decide +kernel
theorem dX7_plan_49 : decode cX7_plan 49 = .ok (.getfield 26, 3) := by decide +kernel
theorem dX7_plan_52 : decode cX7_plan 52 = .ok (.invokevirtual 133, 3) := by decide +kernel
theorem dX7_plan_55 : decode cX7_plan 55 = .ok (.astore 4, 2) := by decide +kernel
theorem dX7_plan_57 : decode cX7_plan 57 = .ok (.iload_n 2, 1) := by decide +kernel
theorem dX7_plan_58 : decode cX7_plan 58 = .ok (.iconst (-1), 1) := by decide +kernel
theorem dX7_plan_59 : decode cX7_plan 59 = .ok (.if_icmp .ne 9, 3) := by decide +kernel
theorem dX7_plan_62 : decode cX7_plan 62 = .ok (.aload 4, 2) := by decide +kernel
theorem dX7_plan_64 : decode cX7_plan 64 = .ok (.invokevirtual 184, 3) := by decide +kernel
theorem dX7_plan_67 : decode cX7_plan 67 = .ok (.ireturn, 1) := by decide +kernel
theorem dX7_plan_68 : decode cX7_plan 68 = .ok (.aload 4, 2) := by decide +kernel
theorem dX7_plan_70 : decode cX7_plan 70 = .ok (.iload_n 2, 1) := by decide +kernel
theorem dX7_plan_71 : decode cX7_plan 71 = .ok (.invokevirtual 208, 3) := by decide +kernel
theorem dX7_plan_74 : decode cX7_plan 74 = .ok (.ifCond .eq 13, 3) := by decide +kernel
theorem dX7_plan_77 : decode cX7_plan 77 = .ok (.aload 4, 2) := by decide +kernel
theorem dX7_plan_79 : decode cX7_plan 79 = .ok (.iload_n 2, 1) := by decide +kernel
theorem dX7_plan_80 : decode cX7_plan 80 = .ok (.iload_n 3, 1) := by decide +kernel
theorem dX7_plan_81 : decode cX7_plan 81 = .ok (.invokestatic 211, 3) := by decide +kernel
theorem dX7_plan_84 : decode cX7_plan 84 = .ok (.goto 4, 3) := by decide +kernel
theorem dX7_plan_87 : decode cX7_plan 87 = .ok (.iconst (-1), 1) := by decide +kernel
theorem dX7_plan_88 : decode cX7_plan 88 = .ok (.ireturn, 1) := by decide +kernel
theorem dX7_left_0 : decode cX7_left 0 = .ok (.aload_n 0, 1) := by decide +kernel
theorem dX7_left_1 : decode cX7_left 1 = .ok (.getfield 12, 3) := by decide +kernel
theorem dX7_left_4 : decode cX7_left 4 = .ok (.iload_n 1, 1) := by decide +kernel
theorem dX7_left_5 : decode cX7_left 5 = .ok (.invokevirtual 126, 3) := by decide +kernel
theorem dX7_left_8 : decode cX7_left 8 = .ok (.ifCond .ne 6, 3) := by decide +kernel
theorem dX7_left_11 : decode cX7_left 11 = .ok (.bipush (-2), 2) := by decide +kernel
theorem dX7_left_13 : decode cX7_left 13 = .ok (.ireturn, 1) := by decide +kernel
theorem dX7_left_14 : decode cX7_left 14 = .ok (.aload_n 0, 1) := by decide +kernel
theorem dX7_left_15 : decode cX7_left 15 = .ok (.getfield 26, 3) := by decide +kernel
theorem dX7_left_18 : decode cX7_left 18 = .ok (.aload_n 0, 1) := by decide +kernel
theorem dX7_left_19 : decode cX7_left 19 = .ok (.getfield 12, 3) := by decide +kernel
theorem dX7_left_22 : decode cX7_left 22 = .ok (.iload_n 1, 1) := by decide +kernel
theorem dX7_left_23 : decode cX7_left 23 = .ok (.invokevirtual 129, 3) := by decide +kernel
theorem dX7_left_26 : decode cX7_left 26 = .ok (.aload_n 0, 1) := by decide +kernel
theorem dX7_left_27 : decode cX7_left 27 = .ok (.getfield 26, 3) := by decide +kernel
theorem dX7_left_30 : decode cX7_left 30 = .ok (.invokevirtual 276, 3) := by decide +kernel
theorem dX7_left_33 : decode cX7_left 33 = .ok (.ireturn, 1) := by decide +kernel
theorem dX7_count_0 : decode cX7_count 0 = .ok (.iload_n 1, 1) := by decide +kernel
theorem dX7_count_1 : decode cX7_count 1 = .ok (.tableswitch 184 0 11 #[63, 71, 82, 93, 101, 109, 126, 137, 155, 160, 168, 176], 63) := by decide +kernel
theorem dX7_count_64 : decode cX7_count 64 = .ok (.aload_n 0, 1) := by decide +kernel
theorem dX7_count_65 : decode cX7_count 65 = .ok (.getfield 12, 3) := by decide +kernel
theorem dX7_count_68 : decode cX7_count 68 = .ok (.invokevirtual 279, 3) := by decide +kernel
theorem dX7_count_71 : decode cX7_count 71 = .ok (.ireturn, 1) := by decide +kernel
theorem dX7_count_72 : decode cX7_count 72 = .ok (.aload_n 0, 1) := by decide +kernel
theorem dX7_count_73 : decode cX7_count 73 = .ok (.getfield 12, 3) := by decide +kernel
theorem dX7_count_76 : decode cX7_count 76 = .ok (.invokevirtual 169, 3) := by decide +kernel
theorem dX7_count_79 : decode cX7_count 79 = .ok (.invokevirtual 184, 3) := by decide +kernel
theorem dX7_count_82 : decode cX7_count 82 = .ok (.ireturn, 1) := by decide +kernel
theorem dX7_count_83 : decode cX7_count 83 = .ok (.aload_n 0, 1) := by decide +kernel
theorem dX7_count_84 : decode cX7_count 84 = .ok (.getfield 12, 3) := by decide +kernel
theorem dX7_count_87 : decode cX7_count 87 = .ok (.invokevirtual 233, 3) := by decide +kernel
theorem dX7_count_90 : decode cX7_count 90 = .ok (.invokevirtual 184, 3) := by decide +kernel
theorem dX7_count_93 : decode cX7_count 93 = .ok (.ireturn, 1) := by decide +kernel
theorem dX7_count_94 : decode cX7_count 94 = .ok (.aload_n 0, 1) := by decide +kernel
theorem dX7_count_95 : decode cX7_count 95 = .ok (.getfield 12, 3) := by decide +kernel
theorem dX7_count_98 : decode cX7_count 98 = .ok (.invokevirtual 282, 3) := by decide +kernel
theorem dX7_count_101 : decode cX7_count 101 = .ok (.ireturn, 1) := by decide +kernel
theorem dX7_count_102 : decode cX7_count 102 = .ok (.aload_n 0, 1) := by decide +kernel
theorem dX7_count_103 : decode cX7_count 103 = .ok (.getfield 35, 3) := by decide +kernel
theorem dX7_count_106 : decode cX7_count 106 = .ok (.invokevirtual 184, 3) := by decide +kernel
theorem dX7_count_109 : decode cX7_count 109 = .ok (.ireturn, 1) := by decide +kernel
theorem dX7_count_110 : decode cX7_count 110 = .ok (.aload_n 0, 1) := by decide +kernel
theorem dX7_count_111 : decode cX7_count 111 = .ok (.getfield 12, 3) := by decide +kernel
theorem dX7_count_114 : decode cX7_count 114 = .ok (.invokevirtual 169, 3) := by decide +kernel
theorem dX7_count_117 : decode cX7_count 117 = .ok (.bipush (-100), 2) := by decide +kernel
theorem dX7_count_119 : decode cX7_count 119 = .ok (.iconst 1, 1) := by decide +kernel
theorem dX7_count_120 : decode cX7_count 120 = .ok (.ldc_w 285, 3) := by decide +kernel
theorem dX7_count_123 : decode cX7_count 123 = .ok (.invokevirtual 175, 3) := by decide +kernel
theorem dX7_count_126 : decode cX7_count 126 = .ok (.ireturn, 1) := by decide +kernel
theorem dX7_count_127 : decode cX7_count 127 = .ok (.aload_n 0, 1) := by decide +kernel
theorem dX7_count_128 : decode cX7_count 128 = .ok (.getfield 12, 3) := by decide +kernel
theorem dX7_count_131 : decode cX7_count 131 = .ok (.iconst (-1), 1) := by decide +kernel
theorem dX7_count_132 : decode cX7_count 132 = .ok (.bipush (-100), 2) := by decide +kernel
theorem dX7_count_134 : decode cX7_count 134 = .ok (.invokevirtual 286, 3) := by decide +kernel
theorem dX7_count_137 : decode cX7_count 137 = .ok (.ireturn, 1) := by decide +kernel
theorem dX7_count_138 : decode cX7_count 138 = .ok (.aload_n 0, 1) := by decide +kernel
theorem dX7_count_139 : decode cX7_count 139 = .ok (.getfield 12, 3) := by decide +kernel
theorem dX7_count_142 : decode cX7_count 142 = .ok (.invokevirtual 169, 3) := by decide +kernel
theorem dX7_count_145 : decode cX7_count 145 = .ok (.iconst 1, 1) := by decide +kernel
theorem dX7_count_146 : decode cX7_count 146 = .ok (.ldc_w 285, 3) := by decide +kernel
theorem dX7_count_149 : decode cX7_count 149 = .ok (.invokevirtual 172, 3) := by decide +kernel
theorem dX7_count_152 : decode cX7_count 152 = .ok (.invokestatic 289, 3) := by decide +kernel
theorem dX7_count_155 : decode cX7_count 155 = .ok (.ireturn, 1) := by decide +kernel
theorem dX7_count_156 : decode cX7_count 156 = .ok (.aload_n 0, 1) := by decide +kernel
theorem dX7_count_157 : decode cX7_count 157 = .ok (.invokevirtual 294, 3) := by decide +kernel
theorem dX7_count_160 : decode cX7_count 160 = .ok (.ireturn, 1) := by decide +kernel
theorem dX7_count_161 : decode cX7_count 161 = .ok (.aload_n 0, 1) := by decide +kernel
theorem dX7_count_162 : decode cX7_count 162 = .ok (.getfield 49, 3) := by decide +kernel
theorem dX7_count_165 : decode cX7_count 165 = .ok (.invokevirtual 268, 3) := by decide +kernel
theorem dX7_count_168 : decode cX7_count 168 = .ok (.ireturn, 1) := by decide +kernel
theorem dX7_count_169 : decode cX7_count 169 = .ok (.aload_n 0, 1) := by decide +kernel
theorem dX7_count_170 : decode cX7_count 170 = .ok (.getfield 19, 3) := by decide +kernel
theorem dX7_count_173 : decode cX7_count 173 = .ok (.invokevirtual 151, 3) := by decide +kernel
theorem dX7_count_176 : decode cX7_count 176 = .ok (.ireturn, 1) := by decide +kernel
theorem dX7_count_177 : decode cX7_count 177 = .ok (.aload_n 0, 1) := by decide +kernel
theorem dX7_count_178 : decode cX7_count 178 = .ok (.getfield 42, 3) := by decide +kernel
theorem dX7_count_181 : decode cX7_count 181 = .ok (.invokevirtual 60, 3) := by decide +kernel
theorem dX7_count_184 : decode cX7_count 184 = .ok (.ireturn, 1) := by decide +kernel
theorem dX7_count_185 : decode cX7_count 185 = .ok (.bipush (-3), 2) := by decide +kernel
theorem dX7_count_187 : decode cX7_count 187 = .ok (.ireturn, 1) := by decide +kernel
theorem dX7_isBox_0 : decode cX7_isBox 0 = .ok (.iload_n 0, 1) := by decide +kernel
theorem dX7_isBox_1 : decode cX7_isBox 1 = .ok (.ifCond .lt 13, 3) := by decide +kernel
theorem dX7_isBox_4 : decode cX7_isBox 4 = .ok (.iload_n 0, 1) := by decide +kernel
theorem dX7_isBox_5 : decode cX7_isBox 5 = .ok (.bipush 8, 2) := by decide +kernel
theorem dX7_isBox_7 : decode cX7_isBox 7 = .ok (.if_icmp .ge 7, 3) := by decide +kernel
theorem dX7_isBox_10 : decode cX7_isBox 10 = .ok (.iconst 1, 1) := by decide +kernel
theorem dX7_isBox_11 : decode cX7_isBox 11 = .ok (.goto 4, 3) := by decide +kernel
theorem dX7_isBox_14 : decode cX7_isBox 14 = .ok (.iconst 0, 1) := by decide +kernel
theorem dX7_isBox_15 : decode cX7_isBox 15 = .ok (.ireturn, 1) := by decide +kernel
theorem dX7_isSheet_0 : decode cX7_isSheet 0 = .ok (.iload_n 0, 1) := by decide +kernel
theorem dX7_isSheet_1 : decode cX7_isSheet 1 = .ok (.iconst 1, 1) := by decide +kernel
theorem dX7_isSheet_2 : decode cX7_isSheet 2 = .ok (.if_icmp .lt 14, 3) := by decide +kernel
theorem dX7_isSheet_5 : decode cX7_isSheet 5 = .ok (.iload_n 0, 1) := by decide +kernel
theorem dX7_isSheet_6 : decode cX7_isSheet 6 = .ok (.ldc_w 285, 3) := by decide +kernel
theorem dX7_isSheet_9 : decode cX7_isSheet 9 = .ok (.if_icmp .gt 7, 3) := by decide +kernel
theorem dX7_isSheet_12 : decode cX7_isSheet 12 = .ok (.iconst 1, 1) := by decide +kernel
theorem dX7_isSheet_13 : decode cX7_isSheet 13 = .ok (.goto 4, 3) := by decide +kernel
theorem dX7_isSheet_16 : decode cX7_isSheet 16 = .ok (.iconst 0, 1) := by decide +kernel
theorem dX7_isSheet_17 : decode cX7_isSheet 17 = .ok (.ireturn, 1) := by decide +kernel
theorem dX7_isRange_0 : decode cX7_isRange 0 = .ok (.iload_n 0, 1) := by decide +kernel
theorem dX7_isRange_1 : decode cX7_isRange 1 = .ok (.invokestatic 221, 3) := by decide +kernel
theorem dX7_isRange_4 : decode cX7_isRange 4 = .ok (.ifCond .eq 19, 3) := by decide +kernel
theorem dX7_isRange_7 : decode cX7_isRange 7 = .ok (.iload_n 1, 1) := by decide +kernel
theorem dX7_isRange_8 : decode cX7_isRange 8 = .ok (.invokestatic 221, 3) := by decide +kernel
theorem dX7_isRange_11 : decode cX7_isRange 11 = .ok (.ifCond .eq 12, 3) := by decide +kernel
theorem dX7_isRange_14 : decode cX7_isRange 14 = .ok (.iload_n 0, 1) := by decide +kernel
theorem dX7_isRange_15 : decode cX7_isRange 15 = .ok (.iload_n 1, 1) := by decide +kernel
theorem dX7_isRange_16 : decode cX7_isRange 16 = .ok (.if_icmp .gt 7, 3) := by decide +kernel
theorem dX7_isRange_19 : decode cX7_isRange 19 = .ok (.iconst 1, 1) := by decide +kernel
theorem dX7_isRange_20 : decode cX7_isRange 20 = .ok (.goto 4, 3) := by decide +kernel
theorem dX7_isRange_23 : decode cX7_isRange 23 = .ok (.iconst 0, 1) := by decide +kernel
theorem dX7_isRange_24 : decode cX7_isRange 24 = .ok (.ireturn, 1) := by decide +kernel
theorem dX7_endOrMark_0 : decode cX7_endOrMark 0 = .ok (.iload_n 2, 1) := by decide +kernel
theorem dX7_endOrMark_1 : decode cX7_endOrMark 1 = .ok (.tableswitch 45 0 2 #[27, 33, 39], 27) := by decide +kernel
theorem dX7_endOrMark_28 : decode cX7_endOrMark 28 = .ok (.aload_n 0, 1) := by decide +kernel
theorem dX7_endOrMark_29 : decode cX7_endOrMark 29 = .ok (.iload_n 1, 1) := by decide +kernel
theorem dX7_endOrMark_30 : decode cX7_endOrMark 30 = .ok (.invokevirtual 215, 3) := by decide +kernel
theorem dX7_endOrMark_33 : decode cX7_endOrMark 33 = .ok (.ireturn, 1) := by decide +kernel
theorem dX7_endOrMark_34 : decode cX7_endOrMark 34 = .ok (.aload_n 0, 1) := by decide +kernel
theorem dX7_endOrMark_35 : decode cX7_endOrMark 35 = .ok (.iload_n 1, 1) := by decide +kernel
theorem dX7_endOrMark_36 : decode cX7_endOrMark 36 = .ok (.invokevirtual 218, 3) := by decide +kernel
theorem dX7_endOrMark_39 : decode cX7_endOrMark 39 = .ok (.ireturn, 1) := by decide +kernel
theorem dX7_endOrMark_40 : decode cX7_endOrMark 40 = .ok (.aload_n 0, 1) := by decide +kernel
theorem dX7_endOrMark_41 : decode cX7_endOrMark 41 = .ok (.iload_n 1, 1) := by decide +kernel
theorem dX7_endOrMark_42 : decode cX7_endOrMark 42 = .ok (.invokevirtual 239, 3) := by decide +kernel
theorem dX7_endOrMark_45 : decode cX7_endOrMark 45 = .ok (.ireturn, 1) := by decide +kernel
theorem dX7_endOrMark_46 : decode cX7_endOrMark 46 = .ok (.bipush (-3), 2) := by decide +kernel
theorem dX7_endOrMark_48 : decode cX7_endOrMark 48 = .ok (.ireturn, 1) := by decide +kernel
theorem dX8_init_0 : decode cX8_init 0 = .ok (.aload_n 0, 1) := by decide +kernel
theorem dX8_init_1 : decode cX8_init 1 = .ok (.invokespecial 1, 3) := by decide +kernel
theorem dX8_init_4 : decode cX8_init 4 = .ok (.aload_n 0, 1) := by decide +kernel
theorem dX8_init_5 : decode cX8_init 5 = .ok (.sipush 5058, 3) := by decide +kernel
theorem dX8_init_8 : decode cX8_init 8 = .ok (.newarray .int, 2) := by decide +kernel
theorem dX8_init_10 : decode cX8_init 10 = .ok (.putfield 7, 3) := by decide +kernel
theorem dX8_init_13 : decode cX8_init 13 = .ok (.aload_n 0, 1) := by decide +kernel
theorem dX8_init_14 : decode cX8_init 14 = .ok (.bipush 36, 2) := by decide +kernel
theorem dX8_init_16 : decode cX8_init 16 = .ok (.newarray .int, 2) := by decide +kernel
theorem dX8_init_18 : decode cX8_init 18 = .ok (.putfield 13, 3) := by decide +kernel
theorem dX8_init_21 : decode cX8_init 21 = .ok (.aload_n 0, 1) := by decide +kernel
theorem dX8_init_22 : decode cX8_init 22 = .ok (.sipush 200, 3) := by decide +kernel
theorem dX8_init_25 : decode cX8_init 25 = .ok (.newarray .int, 2) := by decide +kernel
theorem dX8_init_27 : decode cX8_init 27 = .ok (.putfield 16, 3) := by decide +kernel
theorem dX8_init_30 : decode cX8_init 30 = .ok (.aload_n 0, 1) := by decide +kernel
theorem dX8_init_31 : decode cX8_init 31 = .ok (.sipush 200, 3) := by decide +kernel
theorem dX8_init_34 : decode cX8_init 34 = .ok (.newarray .int, 2) := by decide +kernel
theorem dX8_init_36 : decode cX8_init 36 = .ok (.putfield 19, 3) := by decide +kernel
theorem dX8_init_39 : decode cX8_init 39 = .ok (.aload_n 0, 1) := by decide +kernel
theorem dX8_init_40 : decode cX8_init 40 = .ok (.sipush 132, 3) := by decide +kernel
theorem dX8_init_43 : decode cX8_init 43 = .ok (.newarray .int, 2) := by decide +kernel
theorem dX8_init_45 : decode cX8_init 45 = .ok (.putfield 22, 3) := by decide +kernel
theorem dX8_init_48 : decode cX8_init 48 = .ok (.aload_n 0, 1) := by decide +kernel
theorem dX8_init_49 : decode cX8_init 49 = .ok (.sipush 192, 3) := by decide +kernel
theorem dX8_init_52 : decode cX8_init 52 = .ok (.newarray .int, 2) := by decide +kernel
theorem dX8_init_54 : decode cX8_init 54 = .ok (.putfield 25, 3) := by decide +kernel
theorem dX8_init_57 : decode cX8_init 57 = .ok (.aload_n 0, 1) := by decide +kernel
theorem dX8_init_58 : decode cX8_init 58 = .ok (.bipush 8, 2) := by decide +kernel
theorem dX8_init_60 : decode cX8_init 60 = .ok (.newarray .int, 2) := by decide +kernel
theorem dX8_init_62 : decode cX8_init 62 = .ok (.putfield 28, 3) := by decide +kernel
theorem dX8_init_65 : decode cX8_init 65 = .ok (.aload_n 0, 1) := by decide +kernel
theorem dX8_init_66 : decode cX8_init 66 = .ok (.iconst 3, 1) := by decide +kernel
theorem dX8_init_67 : decode cX8_init 67 = .ok (.newarray .int, 2) := by decide +kernel
theorem dX8_init_69 : decode cX8_init 69 = .ok (.putfield 31, 3) := by decide +kernel
theorem dX8_init_72 : decode cX8_init 72 = .ok (.aload_n 0, 1) := by decide +kernel
theorem dX8_init_73 : decode cX8_init 73 = .ok (.bipush 48, 2) := by decide +kernel
theorem dX8_init_75 : decode cX8_init 75 = .ok (.newarray .int, 2) := by decide +kernel
theorem dX8_init_77 : decode cX8_init 77 = .ok (.dup, 1) := by decide +kernel
theorem dX8_init_78 : decode cX8_init 78 = .ok (.iconst 0, 1) := by decide +kernel
theorem dX8_init_79 : decode cX8_init 79 = .ok (.bipush 97, 2) := by decide +kernel
theorem dX8_init_81 : decode cX8_init 81 = .ok (.iastore, 1) := by decide +kernel
theorem dX8_init_82 : decode cX8_init 82 = .ok (.dup, 1) := by decide +kernel
theorem dX8_init_83 : decode cX8_init 83 = .ok (.iconst 1, 1) := by decide +kernel
theorem dX8_init_84 : decode cX8_init 84 = .ok (.bipush 108, 2) := by decide +kernel
theorem dX8_init_86 : decode cX8_init 86 = .ok (.iastore, 1) := by decide +kernel
theorem dX8_init_87 : decode cX8_init 87 = .ok (.dup, 1) := by decide +kernel
theorem dX8_init_88 : decode cX8_init 88 = .ok (.iconst 2, 1) := by decide +kernel
theorem dX8_init_89 : decode cX8_init 89 = .ok (.bipush 108, 2) := by decide +kernel
theorem dX8_init_91 : decode cX8_init 91 = .ok (.iastore, 1) := by decide +kernel
theorem dX8_init_92 : decode cX8_init 92 = .ok (.dup, 1) := by decide +kernel
theorem dX8_init_93 : decode cX8_init 93 = .ok (.iconst 3, 1) := by decide +kernel
theorem dX8_init_94 : decode cX8_init 94 = .ok (.iconst 0, 1) := by decide +kernel
theorem dX8_init_95 : decode cX8_init 95 = .ok (.iastore, 1) := by decide +kernel
theorem dX8_init_96 : decode cX8_init 96 = .ok (.dup, 1) := by decide +kernel
theorem dX8_init_97 : decode cX8_init 97 = .ok (.iconst 4, 1) := by decide +kernel
theorem dX8_init_98 : decode cX8_init 98 = .ok (.iconst 0, 1) := by decide +kernel
theorem dX8_init_99 : decode cX8_init 99 = .ok (.iastore, 1) := by decide +kernel
theorem dX8_init_100 : decode cX8_init 100 = .ok (.dup, 1) := by decide +kernel
theorem dX8_init_101 : decode cX8_init 101 = .ok (.iconst 5, 1) := by decide +kernel
theorem dX8_init_102 : decode cX8_init 102 = .ok (.iconst 0, 1) := by decide +kernel
theorem dX8_init_103 : decode cX8_init 103 = .ok (.iastore, 1) := by decide +kernel
theorem dX8_init_104 : decode cX8_init 104 = .ok (.dup, 1) := by decide +kernel
theorem dX8_init_105 : decode cX8_init 105 = .ok (.bipush 6, 2) := by decide +kernel
theorem dX8_init_107 : decode cX8_init 107 = .ok (.bipush 115, 2) := by decide +kernel
theorem dX8_init_109 : decode cX8_init 109 = .ok (.iastore, 1) := by decide +kernel
theorem dX8_init_110 : decode cX8_init 110 = .ok (.dup, 1) := by decide +kernel
theorem dX8_init_111 : decode cX8_init 111 = .ok (.bipush 7, 2) := by decide +kernel
theorem dX8_init_113 : decode cX8_init 113 = .ok (.bipush 101, 2) := by decide +kernel
theorem dX8_init_115 : decode cX8_init 115 = .ok (.iastore, 1) := by decide +kernel
theorem dX8_init_116 : decode cX8_init 116 = .ok (.dup, 1) := by decide +kernel
theorem dX8_init_117 : decode cX8_init 117 = .ok (.bipush 8, 2) := by decide +kernel
theorem dX8_init_119 : decode cX8_init 119 = .ok (.bipush 114, 2) := by decide +kernel
theorem dX8_init_121 : decode cX8_init 121 = .ok (.iastore, 1) := by decide +kernel
theorem dX8_init_122 : decode cX8_init 122 = .ok (.dup, 1) := by decide +kernel
theorem dX8_init_123 : decode cX8_init 123 = .ok (.bipush 9, 2) := by decide +kernel
theorem dX8_init_125 : decode cX8_init 125 = .ok (.bipush 105, 2) := by decide +kernel
theorem dX8_init_127 : decode cX8_init 127 = .ok (.iastore, 1) := by decide +kernel
theorem dX8_init_128 : decode cX8_init 128 = .ok (.dup, 1) := by decide +kernel
theorem dX8_init_129 : decode cX8_init 129 = .ok (.bipush 10, 2) := by decide +kernel
theorem dX8_init_131 : decode cX8_init 131 = .ok (.bipush 101, 2) := by decide +kernel
theorem dX8_init_133 : decode cX8_init 133 = .ok (.iastore, 1) := by decide +kernel
theorem dX8_init_134 : decode cX8_init 134 = .ok (.dup, 1) := by decide +kernel
theorem dX8_init_135 : decode cX8_init 135 = .ok (.bipush 11, 2) := by decide +kernel
theorem dX8_init_137 : decode cX8_init 137 = .ok (.bipush 115, 2) := by decide +kernel
theorem dX8_init_139 : decode cX8_init 139 = .ok (.iastore, 1) := by decide +kernel
theorem dX8_init_140 : decode cX8_init 140 = .ok (.dup, 1) := by decide +kernel
theorem dX8_init_141 : decode cX8_init 141 = .ok (.bipush 12, 2) := by decide +kernel
theorem dX8_init_143 : decode cX8_init 143 = .ok (.bipush 116, 2) := by decide +kernel
theorem dX8_init_145 : decode cX8_init 145 = .ok (.iastore, 1) := by decide +kernel
theorem dX8_init_146 : decode cX8_init 146 = .ok (.dup, 1) := by decide +kernel
theorem dX8_init_147 : decode cX8_init 147 = .ok (.bipush 13, 2) := by decide +kernel
theorem dX8_init_149 : decode cX8_init 149 = .ok (.bipush 111, 2) := by decide +kernel
theorem dX8_init_151 : decode cX8_init 151 = .ok (.iastore, 1) := by decide +kernel
theorem dX8_init_152 : decode cX8_init 152 = .ok (.dup, 1) := by decide +kernel
theorem dX8_init_153 : decode cX8_init 153 = .ok (.bipush 14, 2) := by decide +kernel
theorem dX8_init_155 : decode cX8_init 155 = .ok (.bipush 112, 2) := by decide +kernel
theorem dX8_init_157 : decode cX8_init 157 = .ok (.iastore, 1) := by decide +kernel
theorem dX8_init_158 : decode cX8_init 158 = .ok (.dup, 1) := by decide +kernel
theorem dX8_init_159 : decode cX8_init 159 = .ok (.bipush 15, 2) := by decide +kernel
theorem dX8_init_161 : decode cX8_init 161 = .ok (.iconst 0, 1) := by decide +kernel
theorem dX8_init_162 : decode cX8_init 162 = .ok (.iastore, 1) := by decide +kernel
theorem dX8_init_163 : decode cX8_init 163 = .ok (.dup, 1) := by decide +kernel
theorem dX8_init_164 : decode cX8_init 164 = .ok (.bipush 16, 2) := by decide +kernel
theorem dX8_init_166 : decode cX8_init 166 = .ok (.iconst 0, 1) := by decide +kernel
theorem dX8_init_167 : decode cX8_init 167 = .ok (.iastore, 1) := by decide +kernel
theorem dX8_init_168 : decode cX8_init 168 = .ok (.dup, 1) := by decide +kernel
theorem dX8_init_169 : decode cX8_init 169 = .ok (.bipush 17, 2) := by decide +kernel
theorem dX8_init_171 : decode cX8_init 171 = .ok (.iconst 0, 1) := by decide +kernel
theorem dX8_init_172 : decode cX8_init 172 = .ok (.iastore, 1) := by decide +kernel
theorem dX8_init_173 : decode cX8_init 173 = .ok (.dup, 1) := by decide +kernel
theorem dX8_init_174 : decode cX8_init 174 = .ok (.bipush 18, 2) := by decide +kernel
theorem dX8_init_176 : decode cX8_init 176 = .ok (.bipush 98, 2) := by decide +kernel
theorem dX8_init_178 : decode cX8_init 178 = .ok (.iastore, 1) := by decide +kernel
theorem dX8_init_179 : decode cX8_init 179 = .ok (.dup, 1) := by decide +kernel
theorem dX8_init_180 : decode cX8_init 180 = .ok (.bipush 19, 2) := by decide +kernel
theorem dX8_init_182 : decode cX8_init 182 = .ok (.bipush 111, 2) := by decide +kernel
theorem dX8_init_184 : decode cX8_init 184 = .ok (.iastore, 1) := by decide +kernel
theorem dX8_init_185 : decode cX8_init 185 = .ok (.dup, 1) := by decide +kernel
theorem dX8_init_186 : decode cX8_init 186 = .ok (.bipush 20, 2) := by decide +kernel
theorem dX8_init_188 : decode cX8_init 188 = .ok (.bipush 120, 2) := by decide +kernel
theorem dX8_init_190 : decode cX8_init 190 = .ok (.iastore, 1) := by decide +kernel
theorem dX8_init_191 : decode cX8_init 191 = .ok (.dup, 1) := by decide +kernel
theorem dX8_init_192 : decode cX8_init 192 = .ok (.bipush 21, 2) := by decide +kernel
theorem dX8_init_194 : decode cX8_init 194 = .ok (.iconst 0, 1) := by decide +kernel
theorem dX8_init_195 : decode cX8_init 195 = .ok (.iastore, 1) := by decide +kernel
theorem dX8_init_196 : decode cX8_init 196 = .ok (.dup, 1) := by decide +kernel
theorem dX8_init_197 : decode cX8_init 197 = .ok (.bipush 22, 2) := by decide +kernel
theorem dX8_init_199 : decode cX8_init 199 = .ok (.iconst 0, 1) := by decide +kernel
theorem dX8_init_200 : decode cX8_init 200 = .ok (.iastore, 1) := by decide +kernel
theorem dX8_init_201 : decode cX8_init 201 = .ok (.dup, 1) := by decide +kernel
theorem dX8_init_202 : decode cX8_init 202 = .ok (.bipush 23, 2) := by decide +kernel
theorem dX8_init_204 : decode cX8_init 204 = .ok (.iconst 0, 1) := by decide +kernel
theorem dX8_init_205 : decode cX8_init 205 = .ok (.iastore, 1) := by decide +kernel
theorem dX8_init_206 : decode cX8_init 206 = .ok (.dup, 1) := by decide +kernel
theorem dX8_init_207 : decode cX8_init 207 = .ok (.bipush 24, 2) := by decide +kernel
theorem dX8_init_209 : decode cX8_init 209 = .ok (.bipush 108, 2) := by decide +kernel
theorem dX8_init_211 : decode cX8_init 211 = .ok (.iastore, 1) := by decide +kernel
theorem dX8_init_212 : decode cX8_init 212 = .ok (.dup, 1) := by decide +kernel
theorem dX8_init_213 : decode cX8_init 213 = .ok (.bipush 25, 2) := by decide +kernel
theorem dX8_init_215 : decode cX8_init 215 = .ok (.bipush 97, 2) := by decide +kernel
theorem dX8_init_217 : decode cX8_init 217 = .ok (.iastore, 1) := by decide +kernel
theorem dX8_init_218 : decode cX8_init 218 = .ok (.dup, 1) := by decide +kernel
theorem dX8_init_219 : decode cX8_init 219 = .ok (.bipush 26, 2) := by decide +kernel
theorem dX8_init_221 : decode cX8_init 221 = .ok (.bipush 121, 2) := by decide +kernel
theorem dX8_init_223 : decode cX8_init 223 = .ok (.iastore, 1) := by decide +kernel
theorem dX8_init_224 : decode cX8_init 224 = .ok (.dup, 1) := by decide +kernel
theorem dX8_init_225 : decode cX8_init 225 = .ok (.bipush 27, 2) := by decide +kernel
theorem dX8_init_227 : decode cX8_init 227 = .ok (.iconst 0, 1) := by decide +kernel
theorem dX8_init_228 : decode cX8_init 228 = .ok (.iastore, 1) := by decide +kernel
theorem dX8_init_229 : decode cX8_init 229 = .ok (.dup, 1) := by decide +kernel
theorem dX8_init_230 : decode cX8_init 230 = .ok (.bipush 28, 2) := by decide +kernel
theorem dX8_init_232 : decode cX8_init 232 = .ok (.iconst 0, 1) := by decide +kernel
theorem dX8_init_233 : decode cX8_init 233 = .ok (.iastore, 1) := by decide +kernel
theorem dX8_init_234 : decode cX8_init 234 = .ok (.dup, 1) := by decide +kernel
theorem dX8_init_235 : decode cX8_init 235 = .ok (.bipush 29, 2) := by decide +kernel
theorem dX8_init_237 : decode cX8_init 237 = .ok (.iconst 0, 1) := by decide +kernel
theorem dX8_init_238 : decode cX8_init 238 = .ok (.iastore, 1) := by decide +kernel
theorem dX8_init_239 : decode cX8_init 239 = .ok (.dup, 1) := by decide +kernel
theorem dX8_init_240 : decode cX8_init 240 = .ok (.bipush 30, 2) := by decide +kernel
theorem dX8_init_242 : decode cX8_init 242 = .ok (.bipush 116, 2) := by decide +kernel
theorem dX8_init_244 : decode cX8_init 244 = .ok (.iastore, 1) := by decide +kernel
theorem dX8_init_245 : decode cX8_init 245 = .ok (.dup, 1) := by decide +kernel
theorem dX8_init_246 : decode cX8_init 246 = .ok (.bipush 31, 2) := by decide +kernel
theorem dX8_init_248 : decode cX8_init 248 = .ok (.bipush 97, 2) := by decide +kernel
theorem dX8_init_250 : decode cX8_init 250 = .ok (.iastore, 1) := by decide +kernel
theorem dX8_init_251 : decode cX8_init 251 = .ok (.dup, 1) := by decide +kernel
theorem dX8_init_252 : decode cX8_init 252 = .ok (.bipush 32, 2) := by decide +kernel
theorem dX8_init_254 : decode cX8_init 254 = .ok (.bipush 107, 2) := by decide +kernel
theorem dX8_init_256 : decode cX8_init 256 = .ok (.iastore, 1) := by decide +kernel
theorem dX8_init_257 : decode cX8_init 257 = .ok (.dup, 1) := by decide +kernel
theorem dX8_init_258 : decode cX8_init 258 = .ok (.bipush 33, 2) := by decide +kernel
theorem dX8_init_260 : decode cX8_init 260 = .ok (.bipush 101, 2) := by decide +kernel
theorem dX8_init_262 : decode cX8_init 262 = .ok (.iastore, 1) := by decide +kernel
theorem dX8_init_263 : decode cX8_init 263 = .ok (.dup, 1) := by decide +kernel
theorem dX8_init_264 : decode cX8_init 264 = .ok (.bipush 34, 2) := by decide +kernel
theorem dX8_init_266 : decode cX8_init 266 = .ok (.iconst 0, 1) := by decide +kernel
theorem dX8_init_267 : decode cX8_init 267 = .ok (.iastore, 1) := by decide +kernel
theorem dX8_init_268 : decode cX8_init 268 = .ok (.dup, 1) := by decide +kernel
theorem dX8_init_269 : decode cX8_init 269 = .ok (.bipush 35, 2) := by decide +kernel
theorem dX8_init_271 : decode cX8_init 271 = .ok (.iconst 0, 1) := by decide +kernel
theorem dX8_init_272 : decode cX8_init 272 = .ok (.iastore, 1) := by decide +kernel
theorem dX8_init_273 : decode cX8_init 273 = .ok (.dup, 1) := by decide +kernel
theorem dX8_init_274 : decode cX8_init 274 = .ok (.bipush 36, 2) := by decide +kernel
theorem dX8_init_276 : decode cX8_init 276 = .ok (.bipush 114, 2) := by decide +kernel
theorem dX8_init_278 : decode cX8_init 278 = .ok (.iastore, 1) := by decide +kernel
theorem dX8_init_279 : decode cX8_init 279 = .ok (.dup, 1) := by decide +kernel
theorem dX8_init_280 : decode cX8_init 280 = .ok (.bipush 37, 2) := by decide +kernel
theorem dX8_init_282 : decode cX8_init 282 = .ok (.bipush 111, 2) := by decide +kernel
theorem dX8_init_284 : decode cX8_init 284 = .ok (.iastore, 1) := by decide +kernel
theorem dX8_init_285 : decode cX8_init 285 = .ok (.dup, 1) := by decide +kernel
theorem dX8_init_286 : decode cX8_init 286 = .ok (.bipush 38, 2) := by decide +kernel
theorem dX8_init_288 : decode cX8_init 288 = .ok (.bipush 119, 2) := by decide +kernel
theorem dX8_init_290 : decode cX8_init 290 = .ok (.iastore, 1) := by decide +kernel
theorem dX8_init_291 : decode cX8_init 291 = .ok (.dup, 1) := by decide +kernel
theorem dX8_init_292 : decode cX8_init 292 = .ok (.bipush 39, 2) := by decide +kernel
theorem dX8_init_294 : decode cX8_init 294 = .ok (.iconst 0, 1) := by decide +kernel
theorem dX8_init_295 : decode cX8_init 295 = .ok (.iastore, 1) := by decide +kernel
theorem dX8_init_296 : decode cX8_init 296 = .ok (.dup, 1) := by decide +kernel
theorem dX8_init_297 : decode cX8_init 297 = .ok (.bipush 40, 2) := by decide +kernel
theorem dX8_init_299 : decode cX8_init 299 = .ok (.iconst 0, 1) := by decide +kernel
theorem dX8_init_300 : decode cX8_init 300 = .ok (.iastore, 1) := by decide +kernel
theorem dX8_init_301 : decode cX8_init 301 = .ok (.dup, 1) := by decide +kernel
theorem dX8_init_302 : decode cX8_init 302 = .ok (.bipush 41, 2) := by decide +kernel
theorem dX8_init_304 : decode cX8_init 304 = .ok (.iconst 0, 1) := by decide +kernel
theorem dX8_init_305 : decode cX8_init 305 = .ok (.iastore, 1) := by decide +kernel
theorem dX8_init_306 : decode cX8_init 306 = .ok (.dup, 1) := by decide +kernel
theorem dX8_init_307 : decode cX8_init 307 = .ok (.bipush 42, 2) := by decide +kernel
theorem dX8_init_309 : decode cX8_init 309 = .ok (.bipush 112, 2) := by decide +kernel
theorem dX8_init_311 : decode cX8_init 311 = .ok (.iastore, 1) := by decide +kernel
theorem dX8_init_312 : decode cX8_init 312 = .ok (.dup, 1) := by decide +kernel
theorem dX8_init_313 : decode cX8_init 313 = .ok (.bipush 43, 2) := by decide +kernel
theorem dX8_init_315 : decode cX8_init 315 = .ok (.bipush 97, 2) := by decide +kernel
theorem dX8_init_317 : decode cX8_init 317 = .ok (.iastore, 1) := by decide +kernel
theorem dX8_init_318 : decode cX8_init 318 = .ok (.dup, 1) := by decide +kernel
theorem dX8_init_319 : decode cX8_init 319 = .ok (.bipush 44, 2) := by decide +kernel
theorem dX8_init_321 : decode cX8_init 321 = .ok (.bipush 115, 2) := by decide +kernel
theorem dX8_init_323 : decode cX8_init 323 = .ok (.iastore, 1) := by decide +kernel
theorem dX8_init_324 : decode cX8_init 324 = .ok (.dup, 1) := by decide +kernel
theorem dX8_init_325 : decode cX8_init 325 = .ok (.bipush 45, 2) := by decide +kernel
theorem dX8_init_327 : decode cX8_init 327 = .ok (.bipush 115, 2) := by decide +kernel
theorem dX8_init_329 : decode cX8_init 329 = .ok (.iastore, 1) := by decide +kernel
theorem dX8_init_330 : decode cX8_init 330 = .ok (.dup, 1) := by decide +kernel
theorem dX8_init_331 : decode cX8_init 331 = .ok (.bipush 46, 2) := by decide +kernel
theorem dX8_init_333 : decode cX8_init 333 = .ok (.iconst 0, 1) := by decide +kernel
theorem dX8_init_334 : decode cX8_init 334 = .ok (.iastore, 1) := by decide +kernel
theorem dX8_init_335 : decode cX8_init 335 = .ok (.dup, 1) := by decide +kernel
theorem dX8_init_336 : decode cX8_init 336 = .ok (.bipush 47, 2) := by decide +kernel
theorem dX8_init_338 : decode cX8_init 338 = .ok (.iconst 0, 1) := by decide +kernel
theorem dX8_init_339 : decode cX8_init 339 = .ok (.iastore, 1) := by decide +kernel
theorem dX8_init_340 : decode cX8_init 340 = .ok (.putfield 34, 3) := by decide +kernel
theorem dX8_init_343 : decode cX8_init 343 = .ok (.aload_n 0, 1) := by decide +kernel
theorem dX8_init_344 : decode cX8_init 344 = .ok (.bipush 24, 2) := by decide +kernel
theorem dX8_init_346 : decode cX8_init 346 = .ok (.newarray .int, 2) := by decide +kernel
theorem dX8_init_348 : decode cX8_init 348 = .ok (.dup, 1) := by decide +kernel
theorem dX8_init_349 : decode cX8_init 349 = .ok (.iconst 0, 1) := by decide +kernel
theorem dX8_init_350 : decode cX8_init 350 = .ok (.iconst 0, 1) := by decide +kernel
theorem dX8_init_351 : decode cX8_init 351 = .ok (.iastore, 1) := by decide +kernel
theorem dX8_init_352 : decode cX8_init 352 = .ok (.dup, 1) := by decide +kernel
theorem dX8_init_353 : decode cX8_init 353 = .ok (.iconst 1, 1) := by decide +kernel
theorem dX8_init_354 : decode cX8_init 354 = .ok (.iconst 0, 1) := by decide +kernel
theorem dX8_init_355 : decode cX8_init 355 = .ok (.iastore, 1) := by decide +kernel
theorem dX8_init_356 : decode cX8_init 356 = .ok (.dup, 1) := by decide +kernel
theorem dX8_init_357 : decode cX8_init 357 = .ok (.iconst 2, 1) := by decide +kernel
theorem dX8_init_358 : decode cX8_init 358 = .ok (.iconst 0, 1) := by decide +kernel
theorem dX8_init_359 : decode cX8_init 359 = .ok (.iastore, 1) := by decide +kernel
theorem dX8_init_360 : decode cX8_init 360 = .ok (.dup, 1) := by decide +kernel
theorem dX8_init_361 : decode cX8_init 361 = .ok (.iconst 3, 1) := by decide +kernel
theorem dX8_init_362 : decode cX8_init 362 = .ok (.iconst 1, 1) := by decide +kernel
theorem dX8_init_363 : decode cX8_init 363 = .ok (.iastore, 1) := by decide +kernel
theorem dX8_init_364 : decode cX8_init 364 = .ok (.dup, 1) := by decide +kernel
theorem dX8_init_365 : decode cX8_init 365 = .ok (.iconst 4, 1) := by decide +kernel
theorem dX8_init_366 : decode cX8_init 366 = .ok (.iconst 3, 1) := by decide +kernel
theorem dX8_init_367 : decode cX8_init 367 = .ok (.iastore, 1) := by decide +kernel
theorem dX8_init_368 : decode cX8_init 368 = .ok (.dup, 1) := by decide +kernel
theorem dX8_init_369 : decode cX8_init 369 = .ok (.iconst 5, 1) := by decide +kernel
theorem dX8_init_370 : decode cX8_init 370 = .ok (.iconst 4, 1) := by decide +kernel
theorem dX8_init_371 : decode cX8_init 371 = .ok (.iastore, 1) := by decide +kernel
theorem dX8_init_372 : decode cX8_init 372 = .ok (.dup, 1) := by decide +kernel
theorem dX8_init_373 : decode cX8_init 373 = .ok (.bipush 6, 2) := by decide +kernel
theorem dX8_init_375 : decode cX8_init 375 = .ok (.iconst 3, 1) := by decide +kernel
theorem dX8_init_376 : decode cX8_init 376 = .ok (.iastore, 1) := by decide +kernel
theorem dX8_init_377 : decode cX8_init 377 = .ok (.dup, 1) := by decide +kernel
theorem dX8_init_378 : decode cX8_init 378 = .ok (.bipush 7, 2) := by decide +kernel
theorem dX8_init_380 : decode cX8_init 380 = .ok (.iconst 4, 1) := by decide +kernel
theorem dX8_init_381 : decode cX8_init 381 = .ok (.iastore, 1) := by decide +kernel
theorem dX8_init_382 : decode cX8_init 382 = .ok (.dup, 1) := by decide +kernel
theorem dX8_init_383 : decode cX8_init 383 = .ok (.bipush 8, 2) := by decide +kernel
theorem dX8_init_385 : decode cX8_init 385 = .ok (.iconst 0, 1) := by decide +kernel
theorem dX8_init_386 : decode cX8_init 386 = .ok (.iastore, 1) := by decide +kernel
theorem dX8_init_387 : decode cX8_init 387 = .ok (.dup, 1) := by decide +kernel
theorem dX8_init_388 : decode cX8_init 388 = .ok (.bipush 9, 2) := by decide +kernel
theorem dX8_init_390 : decode cX8_init 390 = .ok (.iconst 2, 1) := by decide +kernel
theorem dX8_init_391 : decode cX8_init 391 = .ok (.iastore, 1) := by decide +kernel
theorem dX8_init_392 : decode cX8_init 392 = .ok (.dup, 1) := by decide +kernel
theorem dX8_init_393 : decode cX8_init 393 = .ok (.bipush 10, 2) := by decide +kernel
theorem dX8_init_395 : decode cX8_init 395 = .ok (.iconst 5, 1) := by decide +kernel
theorem dX8_init_396 : decode cX8_init 396 = .ok (.iastore, 1) := by decide +kernel
theorem dX8_init_397 : decode cX8_init 397 = .ok (.dup, 1) := by decide +kernel
theorem dX8_init_398 : decode cX8_init 398 = .ok (.bipush 11, 2) := by decide +kernel
theorem dX8_init_400 : decode cX8_init 400 = .ok (.iconst 0, 1) := by decide +kernel
theorem dX8_init_401 : decode cX8_init 401 = .ok (.iastore, 1) := by decide +kernel
theorem dX8_init_402 : decode cX8_init 402 = .ok (.dup, 1) := by decide +kernel
theorem dX8_init_403 : decode cX8_init 403 = .ok (.bipush 12, 2) := by decide +kernel
theorem dX8_init_405 : decode cX8_init 405 = .ok (.iconst 2, 1) := by decide +kernel
theorem dX8_init_406 : decode cX8_init 406 = .ok (.iastore, 1) := by decide +kernel
theorem dX8_init_407 : decode cX8_init 407 = .ok (.dup, 1) := by decide +kernel
theorem dX8_init_408 : decode cX8_init 408 = .ok (.bipush 13, 2) := by decide +kernel
theorem dX8_init_410 : decode cX8_init 410 = .ok (.iconst 3, 1) := by decide +kernel
theorem dX8_init_411 : decode cX8_init 411 = .ok (.iastore, 1) := by decide +kernel
theorem dX8_init_412 : decode cX8_init 412 = .ok (.dup, 1) := by decide +kernel
theorem dX8_init_413 : decode cX8_init 413 = .ok (.bipush 14, 2) := by decide +kernel
theorem dX8_init_415 : decode cX8_init 415 = .ok (.iconst 4, 1) := by decide +kernel
theorem dX8_init_416 : decode cX8_init 416 = .ok (.iastore, 1) := by decide +kernel
theorem dX8_init_417 : decode cX8_init 417 = .ok (.dup, 1) := by decide +kernel
theorem dX8_init_418 : decode cX8_init 418 = .ok (.bipush 15, 2) := by decide +kernel
theorem dX8_init_420 : decode cX8_init 420 = .ok (.iconst 3, 1) := by decide +kernel
theorem dX8_init_421 : decode cX8_init 421 = .ok (.iastore, 1) := by decide +kernel
theorem dX8_init_422 : decode cX8_init 422 = .ok (.dup, 1) := by decide +kernel
theorem dX8_init_423 : decode cX8_init 423 = .ok (.bipush 16, 2) := by decide +kernel
theorem dX8_init_425 : decode cX8_init 425 = .ok (.iconst 4, 1) := by decide +kernel
theorem dX8_init_426 : decode cX8_init 426 = .ok (.iastore, 1) := by decide +kernel
theorem dX8_init_427 : decode cX8_init 427 = .ok (.dup, 1) := by decide +kernel
theorem dX8_init_428 : decode cX8_init 428 = .ok (.bipush 17, 2) := by decide +kernel
theorem dX8_init_430 : decode cX8_init 430 = .ok (.iconst 0, 1) := by decide +kernel
theorem dX8_init_431 : decode cX8_init 431 = .ok (.iastore, 1) := by decide +kernel
theorem dX8_init_432 : decode cX8_init 432 = .ok (.dup, 1) := by decide +kernel
theorem dX8_init_433 : decode cX8_init 433 = .ok (.bipush 18, 2) := by decide +kernel
theorem dX8_init_435 : decode cX8_init 435 = .ok (.iconst 2, 1) := by decide +kernel
theorem dX8_init_436 : decode cX8_init 436 = .ok (.iastore, 1) := by decide +kernel
theorem dX8_init_437 : decode cX8_init 437 = .ok (.dup, 1) := by decide +kernel
theorem dX8_init_438 : decode cX8_init 438 = .ok (.bipush 19, 2) := by decide +kernel
theorem dX8_init_440 : decode cX8_init 440 = .ok (.iconst 3, 1) := by decide +kernel
theorem dX8_init_441 : decode cX8_init 441 = .ok (.iastore, 1) := by decide +kernel
theorem dX8_init_442 : decode cX8_init 442 = .ok (.dup, 1) := by decide +kernel
theorem dX8_init_443 : decode cX8_init 443 = .ok (.bipush 20, 2) := by decide +kernel
theorem dX8_init_445 : decode cX8_init 445 = .ok (.iconst 4, 1) := by decide +kernel
theorem dX8_init_446 : decode cX8_init 446 = .ok (.iastore, 1) := by decide +kernel
theorem dX8_init_447 : decode cX8_init 447 = .ok (.dup, 1) := by decide +kernel
theorem dX8_init_448 : decode cX8_init 448 = .ok (.bipush 21, 2) := by decide +kernel
theorem dX8_init_450 : decode cX8_init 450 = .ok (.bipush 6, 2) := by decide +kernel
theorem dX8_init_452 : decode cX8_init 452 = .ok (.iastore, 1) := by decide +kernel
theorem dX8_init_453 : decode cX8_init 453 = .ok (.dup, 1) := by decide +kernel
theorem dX8_init_454 : decode cX8_init 454 = .ok (.bipush 22, 2) := by decide +kernel
theorem dX8_init_456 : decode cX8_init 456 = .ok (.iconst 0, 1) := by decide +kernel
theorem dX8_init_457 : decode cX8_init 457 = .ok (.iastore, 1) := by decide +kernel
theorem dX8_init_458 : decode cX8_init 458 = .ok (.dup, 1) := by decide +kernel
theorem dX8_init_459 : decode cX8_init 459 = .ok (.bipush 23, 2) := by decide +kernel
theorem dX8_init_461 : decode cX8_init 461 = .ok (.iconst 0, 1) := by decide +kernel
theorem dX8_init_462 : decode cX8_init 462 = .ok (.iastore, 1) := by decide +kernel
theorem dX8_init_463 : decode cX8_init 463 = .ok (.putfield 37, 3) := by decide +kernel
theorem dX8_init_466 : decode cX8_init 466 = .ok (.aload_n 0, 1) := by decide +kernel
theorem dX8_init_467 : decode cX8_init 467 = .ok (.bipush 80, 2) := by decide +kernel
theorem dX8_init_469 : decode cX8_init 469 = .ok (.newarray .int, 2) := by decide +kernel
theorem dX8_init_471 : decode cX8_init 471 = .ok (.putfield 40, 3) := by decide +kernel
theorem dX8_init_474 : decode cX8_init 474 = .ok (.aload_n 0, 1) := by decide +kernel
theorem dX8_init_475 : decode cX8_init 475 = .ok (.sipush 562, 3) := by decide +kernel
theorem dX8_init_478 : decode cX8_init 478 = .ok (.newarray .int, 2) := by decide +kernel
theorem dX8_init_480 : decode cX8_init 480 = .ok (.putfield 43, 3) := by decide +kernel
theorem dX8_init_483 : decode cX8_init 483 = .ok (.aload_n 0, 1) := by decide +kernel
theorem dX8_init_484 : decode cX8_init 484 = .ok (.sipush 200, 3) := by decide +kernel
theorem dX8_init_487 : decode cX8_init 487 = .ok (.newarray .int, 2) := by decide +kernel
theorem dX8_init_489 : decode cX8_init 489 = .ok (.putfield 46, 3) := by decide +kernel
theorem dX8_init_492 : decode cX8_init 492 = .ok (.return_, 1) := by decide +kernel
theorem dX8_begins_0 : decode cX8_begins 0 = .ok (.iconst 0, 1) := by decide +kernel
theorem dX8_begins_1 : decode cX8_begins 1 = .ok (.istore_n 1, 1) := by decide +kernel
theorem dX8_begins_2 : decode cX8_begins 2 = .ok (.iload_n 1, 1) := by decide +kernel
theorem dX8_begins_3 : decode cX8_begins 3 = .ok (.sipush 562, 3) := by decide +kernel
theorem dX8_begins_6 : decode cX8_begins 6 = .ok (.if_icmp .ge 16, 3) := by decide +kernel
theorem dX8_begins_9 : decode cX8_begins 9 = .ok (.aload_n 0, 1) := by decide +kernel
theorem dX8_begins_10 : decode cX8_begins 10 = .ok (.getfield 7, 3) := by decide +kernel
theorem dX8_begins_13 : decode cX8_begins 13 = .ok (.iload_n 1, 1) := by decide +kernel
theorem dX8_begins_14 : decode cX8_begins 14 = .ok (.iconst 0, 1) := by decide +kernel
theorem dX8_begins_15 : decode cX8_begins 15 = .ok (.iastore, 1) := by decide +kernel
theorem dX8_begins_16 : decode cX8_begins 16 = .ok (.iinc 1 1, 3) := by decide +kernel
theorem dX8_begins_19 : decode cX8_begins 19 = .ok (.goto (-17), 3) := by decide +kernel
theorem dX8_begins_22 : decode cX8_begins 22 = .ok (.aload_n 0, 1) := by decide +kernel
theorem dX8_begins_23 : decode cX8_begins 23 = .ok (.iconst 0, 1) := by decide +kernel
theorem dX8_begins_24 : decode cX8_begins 24 = .ok (.putfield 49, 3) := by decide +kernel
theorem dX8_begins_27 : decode cX8_begins 27 = .ok (.aload_n 0, 1) := by decide +kernel
theorem dX8_begins_28 : decode cX8_begins 28 = .ok (.iconst 0, 1) := by decide +kernel
theorem dX8_begins_29 : decode cX8_begins 29 = .ok (.putfield 53, 3) := by decide +kernel
theorem dX8_begins_32 : decode cX8_begins 32 = .ok (.return_, 1) := by decide +kernel
theorem dX8_in_0 : decode cX8_in 0 = .ok (.lload_n 0, 1) := by decide +kernel
theorem dX8_in_1 : decode cX8_in 1 = .ok (.lload_n 2, 1) := by decide +kernel
theorem dX8_in_2 : decode cX8_in 2 = .ok (.lcmp, 1) := by decide +kernel
theorem dX8_in_3 : decode cX8_in 3 = .ok (.ifCond .lt 14, 3) := by decide +kernel
theorem dX8_in_6 : decode cX8_in 6 = .ok (.lload_n 0, 1) := by decide +kernel
theorem dX8_in_7 : decode cX8_in 7 = .ok (.lload 4, 2) := by decide +kernel
theorem dX8_in_9 : decode cX8_in 9 = .ok (.lcmp, 1) := by decide +kernel
theorem dX8_in_10 : decode cX8_in 10 = .ok (.ifCond .gt 7, 3) := by decide +kernel
theorem dX8_in_13 : decode cX8_in 13 = .ok (.iconst 1, 1) := by decide +kernel
theorem dX8_in_14 : decode cX8_in 14 = .ok (.goto 4, 3) := by decide +kernel
theorem dX8_in_17 : decode cX8_in 17 = .ok (.iconst 0, 1) := by decide +kernel
theorem dX8_in_18 : decode cX8_in 18 = .ok (.ireturn, 1) := by decide +kernel
theorem dX8_isRange_0 : decode cX8_isRange 0 = .ok (.iload_n 0, 1) := by decide +kernel
theorem dX8_isRange_1 : decode cX8_isRange 1 = .ok (.i2l, 1) := by decide +kernel
theorem dX8_isRange_2 : decode cX8_isRange 2 = .ok (.lconst 1, 1) := by decide +kernel
theorem dX8_isRange_3 : decode cX8_isRange 3 = .ok (.ldc2_w 56, 3) := by decide +kernel
theorem dX8_isRange_6 : decode cX8_isRange 6 = .ok (.invokestatic 58, 3) := by decide +kernel
theorem dX8_isRange_9 : decode cX8_isRange 9 = .ok (.ifCond .eq 20, 3) := by decide +kernel
theorem dX8_isRange_12 : decode cX8_isRange 12 = .ok (.iload_n 1, 1) := by decide +kernel
theorem dX8_isRange_13 : decode cX8_isRange 13 = .ok (.i2l, 1) := by decide +kernel
theorem dX8_isRange_14 : decode cX8_isRange 14 = .ok (.iload_n 0, 1) := by decide +kernel
theorem dX8_isRange_15 : decode cX8_isRange 15 = .ok (.i2l, 1) := by decide +kernel
theorem dX8_isRange_16 : decode cX8_isRange 16 = .ok (.ldc2_w 56, 3) := by decide +kernel
theorem dX8_isRange_19 : decode cX8_isRange 19 = .ok (.invokestatic 58, 3) := by decide +kernel
theorem dX8_isRange_22 : decode cX8_isRange 22 = .ok (.ifCond .eq 7, 3) := by decide +kernel
theorem dX8_isRange_25 : decode cX8_isRange 25 = .ok (.iconst 1, 1) := by decide +kernel
theorem dX8_isRange_26 : decode cX8_isRange 26 = .ok (.goto 4, 3) := by decide +kernel
theorem dX8_isRange_29 : decode cX8_isRange 29 = .ok (.iconst 0, 1) := by decide +kernel
theorem dX8_isRange_30 : decode cX8_isRange 30 = .ok (.ireturn, 1) := by decide +kernel
theorem dX8_isSheet_0 : decode cX8_isSheet 0 = .ok (.iload_n 0, 1) := by decide +kernel
theorem dX8_isSheet_1 : decode cX8_isSheet 1 = .ok (.i2l, 1) := by decide +kernel
theorem dX8_isSheet_2 : decode cX8_isSheet 2 = .ok (.lconst 1, 1) := by decide +kernel
theorem dX8_isSheet_3 : decode cX8_isSheet 3 = .ok (.ldc2_w 56, 3) := by decide +kernel
theorem dX8_isSheet_6 : decode cX8_isSheet 6 = .ok (.invokestatic 58, 3) := by decide +kernel
theorem dX8_isSheet_9 : decode cX8_isSheet 9 = .ok (.ireturn, 1) := by decide +kernel
theorem dX8_isBox_0 : decode cX8_isBox 0 = .ok (.iload_n 0, 1) := by decide +kernel
theorem dX8_isBox_1 : decode cX8_isBox 1 = .ok (.i2l, 1) := by decide +kernel
theorem dX8_isBox_2 : decode cX8_isBox 2 = .ok (.lconst 0, 1) := by decide +kernel
theorem dX8_isBox_3 : decode cX8_isBox 3 = .ok (.ldc2_w 62, 3) := by decide +kernel
theorem dX8_isBox_6 : decode cX8_isBox 6 = .ok (.invokestatic 58, 3) := by decide +kernel
theorem dX8_isBox_9 : decode cX8_isBox 9 = .ok (.ireturn, 1) := by decide +kernel
theorem dX8_isSeries_0 : decode cX8_isSeries 0 = .ok (.iload_n 1, 1) := by decide +kernel
theorem dX8_isSeries_1 : decode cX8_isSeries 1 = .ok (.i2l, 1) := by decide +kernel
theorem dX8_isSeries_2 : decode cX8_isSeries 2 = .ok (.lconst 0, 1) := by decide +kernel
theorem dX8_isSeries_3 : decode cX8_isSeries 3 = .ok (.aload_n 0, 1) := by decide +kernel
theorem dX8_isSeries_4 : decode cX8_isSeries 4 = .ok (.getfield 7, 3) := by decide +kernel
theorem dX8_isSeries_7 : decode cX8_isSeries 7 = .ok (.iconst 0, 1) := by decide +kernel
theorem dX8_isSeries_8 : decode cX8_isSeries 8 = .ok (.iaload, 1) := by decide +kernel
theorem dX8_isSeries_9 : decode cX8_isSeries 9 = .ok (.iconst 1, 1) := by decide +kernel
theorem dX8_isSeries_10 : decode cX8_isSeries 10 = .ok (.isub, 1) := by decide +kernel
theorem dX8_isSeries_11 : decode cX8_isSeries 11 = .ok (.i2l, 1) := by decide +kernel
theorem dX8_isSeries_12 : decode cX8_isSeries 12 = .ok (.invokestatic 58, 3) := by decide +kernel
theorem dX8_isSeries_15 : decode cX8_isSeries 15 = .ok (.ireturn, 1) := by decide +kernel
theorem dX8_parent_0 : decode cX8_parent 0 = .ok (.aload_n 0, 1) := by decide +kernel
theorem dX8_parent_1 : decode cX8_parent 1 = .ok (.getfield 7, 3) := by decide +kernel
theorem dX8_parent_4 : decode cX8_parent 4 = .ok (.iconst 4, 1) := by decide +kernel
theorem dX8_parent_5 : decode cX8_parent 5 = .ok (.iconst 3, 1) := by decide +kernel
theorem dX8_parent_6 : decode cX8_parent 6 = .ok (.iload_n 1, 1) := by decide +kernel
theorem dX8_parent_7 : decode cX8_parent 7 = .ok (.imul, 1) := by decide +kernel
theorem dX8_parent_8 : decode cX8_parent 8 = .ok (.iadd, 1) := by decide +kernel
theorem dX8_parent_9 : decode cX8_parent 9 = .ok (.iaload, 1) := by decide +kernel
theorem dX8_parent_10 : decode cX8_parent 10 = .ok (.ireturn, 1) := by decide +kernel
theorem dX8_firstOf_0 : decode cX8_firstOf 0 = .ok (.aload_n 0, 1) := by decide +kernel
theorem dX8_firstOf_1 : decode cX8_firstOf 1 = .ok (.getfield 7, 3) := by decide +kernel
theorem dX8_firstOf_4 : decode cX8_firstOf 4 = .ok (.iconst 4, 1) := by decide +kernel
theorem dX8_firstOf_5 : decode cX8_firstOf 5 = .ok (.iconst 3, 1) := by decide +kernel
theorem dX8_firstOf_6 : decode cX8_firstOf 6 = .ok (.iload_n 1, 1) := by decide +kernel
theorem dX8_firstOf_7 : decode cX8_firstOf 7 = .ok (.imul, 1) := by decide +kernel
theorem dX8_firstOf_8 : decode cX8_firstOf 8 = .ok (.iadd, 1) := by decide +kernel
theorem dX8_firstOf_9 : decode cX8_firstOf 9 = .ok (.iconst 1, 1) := by decide +kernel
theorem dX8_firstOf_10 : decode cX8_firstOf 10 = .ok (.iadd, 1) := by decide +kernel
theorem dX8_firstOf_11 : decode cX8_firstOf 11 = .ok (.iaload, 1) := by decide +kernel
theorem dX8_firstOf_12 : decode cX8_firstOf 12 = .ok (.ireturn, 1) := by decide +kernel
theorem dX8_lastOf_0 : decode cX8_lastOf 0 = .ok (.aload_n 0, 1) := by decide +kernel
theorem dX8_lastOf_1 : decode cX8_lastOf 1 = .ok (.getfield 7, 3) := by decide +kernel
theorem dX8_lastOf_4 : decode cX8_lastOf 4 = .ok (.iconst 4, 1) := by decide +kernel
theorem dX8_lastOf_5 : decode cX8_lastOf 5 = .ok (.iconst 3, 1) := by decide +kernel
theorem dX8_lastOf_6 : decode cX8_lastOf 6 = .ok (.iload_n 1, 1) := by decide +kernel
theorem dX8_lastOf_7 : decode cX8_lastOf 7 = .ok (.imul, 1) := by decide +kernel
theorem dX8_lastOf_8 : decode cX8_lastOf 8 = .ok (.iadd, 1) := by decide +kernel
theorem dX8_lastOf_9 : decode cX8_lastOf 9 = .ok (.iconst 2, 1) := by decide +kernel
theorem dX8_lastOf_10 : decode cX8_lastOf 10 = .ok (.iadd, 1) := by decide +kernel
theorem dX8_lastOf_11 : decode cX8_lastOf 11 = .ok (.iaload, 1) := by decide +kernel
theorem dX8_lastOf_12 : decode cX8_lastOf 12 = .ok (.ireturn, 1) := by decide +kernel
theorem dX8_pieceAt_0 : decode cX8_pieceAt 0 = .ok (.aload_n 0, 1) := by decide +kernel
theorem dX8_pieceAt_1 : decode cX8_pieceAt 1 = .ok (.getfield 7, 3) := by decide +kernel
theorem dX8_pieceAt_4 : decode cX8_pieceAt 4 = .ok (.bipush 42, 2) := by decide +kernel
theorem dX8_pieceAt_6 : decode cX8_pieceAt 6 = .ok (.iconst 3, 1) := by decide +kernel
theorem dX8_pieceAt_7 : decode cX8_pieceAt 7 = .ok (.iload_n 1, 1) := by decide +kernel
theorem dX8_pieceAt_8 : decode cX8_pieceAt 8 = .ok (.imul, 1) := by decide +kernel
theorem dX8_pieceAt_9 : decode cX8_pieceAt 9 = .ok (.iadd, 1) := by decide +kernel
theorem dX8_pieceAt_10 : decode cX8_pieceAt 10 = .ok (.iload_n 2, 1) := by decide +kernel
theorem dX8_pieceAt_11 : decode cX8_pieceAt 11 = .ok (.iadd, 1) := by decide +kernel
theorem dX8_pieceAt_12 : decode cX8_pieceAt 12 = .ok (.iaload, 1) := by decide +kernel
theorem dX8_pieceAt_13 : decode cX8_pieceAt 13 = .ok (.ireturn, 1) := by decide +kernel
theorem dX8_greater_0 : decode cX8_greater 0 = .ok (.iload_n 0, 1) := by decide +kernel
theorem dX8_greater_1 : decode cX8_greater 1 = .ok (.iload_n 1, 1) := by decide +kernel
theorem dX8_greater_2 : decode cX8_greater 2 = .ok (.if_icmp .le 7, 3) := by decide +kernel
theorem dX8_greater_5 : decode cX8_greater 5 = .ok (.iload_n 0, 1) := by decide +kernel
theorem dX8_greater_6 : decode cX8_greater 6 = .ok (.goto 4, 3) := by decide +kernel
theorem dX8_greater_9 : decode cX8_greater 9 = .ok (.iload_n 1, 1) := by decide +kernel
theorem dX8_greater_10 : decode cX8_greater 10 = .ok (.ireturn, 1) := by decide +kernel
theorem dX8_lesser_0 : decode cX8_lesser 0 = .ok (.iload_n 0, 1) := by decide +kernel
theorem dX8_lesser_1 : decode cX8_lesser 1 = .ok (.iload_n 1, 1) := by decide +kernel
theorem dX8_lesser_2 : decode cX8_lesser 2 = .ok (.if_icmp .ge 7, 3) := by decide +kernel
theorem dX8_lesser_5 : decode cX8_lesser 5 = .ok (.iload_n 0, 1) := by decide +kernel
theorem dX8_lesser_6 : decode cX8_lesser 6 = .ok (.goto 4, 3) := by decide +kernel
theorem dX8_lesser_9 : decode cX8_lesser 9 = .ok (.iload_n 1, 1) := by decide +kernel
theorem dX8_lesser_10 : decode cX8_lesser 10 = .ok (.ireturn, 1) := by decide +kernel
theorem dX8_common_0 : decode cX8_common 0 = .ok (.iload_n 0, 1) := by decide +kernel
theorem dX8_common_1 : decode cX8_common 1 = .ok (.iload_n 2, 1) := by decide +kernel
theorem dX8_common_2 : decode cX8_common 2 = .ok (.invokestatic 64, 3) := by decide +kernel
theorem dX8_common_5 : decode cX8_common 5 = .ok (.istore 4, 2) := by decide +kernel
theorem dX8_common_7 : decode cX8_common 7 = .ok (.iload_n 1, 1) := by decide +kernel
theorem dX8_common_8 : decode cX8_common 8 = .ok (.iload_n 3, 1) := by decide +kernel
theorem dX8_common_9 : decode cX8_common 9 = .ok (.invokestatic 68, 3) := by decide +kernel
theorem dX8_common_12 : decode cX8_common 12 = .ok (.istore 5, 2) := by decide +kernel
theorem dX8_common_14 : decode cX8_common 14 = .ok (.iload 4, 2) := by decide +kernel
theorem dX8_common_16 : decode cX8_common 16 = .ok (.iload 5, 2) := by decide +kernel
theorem dX8_common_18 : decode cX8_common 18 = .ok (.if_icmp .le 7, 3) := by decide +kernel
theorem dX8_common_21 : decode cX8_common 21 = .ok (.iconst 0, 1) := by decide +kernel
theorem dX8_common_22 : decode cX8_common 22 = .ok (.goto 10, 3) := by decide +kernel
theorem dX8_common_25 : decode cX8_common 25 = .ok (.iload 5, 2) := by decide +kernel
theorem dX8_common_27 : decode cX8_common 27 = .ok (.iload 4, 2) := by decide +kernel
theorem dX8_common_29 : decode cX8_common 29 = .ok (.isub, 1) := by decide +kernel
theorem dX8_common_30 : decode cX8_common 30 = .ok (.iconst 1, 1) := by decide +kernel
theorem dX8_common_31 : decode cX8_common 31 = .ok (.iadd, 1) := by decide +kernel
theorem dX8_common_32 : decode cX8_common 32 = .ok (.ireturn, 1) := by decide +kernel
theorem dX8_inBox_0 : decode cX8_inBox 0 = .ok (.iconst 0, 1) := by decide +kernel
theorem dX8_inBox_1 : decode cX8_inBox 1 = .ok (.istore 4, 2) := by decide +kernel
theorem dX8_inBox_3 : decode cX8_inBox 3 = .ok (.iconst 0, 1) := by decide +kernel
theorem dX8_inBox_4 : decode cX8_inBox 4 = .ok (.istore 5, 2) := by decide +kernel
theorem dX8_inBox_6 : decode cX8_inBox 6 = .ok (.iload 5, 2) := by decide +kernel
theorem dX8_inBox_8 : decode cX8_inBox 8 = .ok (.aload_n 0, 1) := by decide +kernel
theorem dX8_inBox_9 : decode cX8_inBox 9 = .ok (.getfield 7, 3) := by decide +kernel
theorem dX8_inBox_12 : decode cX8_inBox 12 = .ok (.iconst 1, 1) := by decide +kernel
theorem dX8_inBox_13 : decode cX8_inBox 13 = .ok (.iaload, 1) := by decide +kernel
theorem dX8_inBox_14 : decode cX8_inBox 14 = .ok (.if_icmp .ge 53, 3) := by decide +kernel
theorem dX8_inBox_17 : decode cX8_inBox 17 = .ok (.iload 4, 2) := by decide +kernel
theorem dX8_inBox_19 : decode cX8_inBox 19 = .ok (.iload_n 1, 1) := by decide +kernel
theorem dX8_inBox_20 : decode cX8_inBox 20 = .ok (.iconst (-1), 1) := by decide +kernel
theorem dX8_inBox_21 : decode cX8_inBox 21 = .ok (.if_icmp .eq 14, 3) := by decide +kernel
theorem dX8_inBox_24 : decode cX8_inBox 24 = .ok (.aload_n 0, 1) := by decide +kernel
theorem dX8_inBox_25 : decode cX8_inBox 25 = .ok (.iload 5, 2) := by decide +kernel
theorem dX8_inBox_27 : decode cX8_inBox 27 = .ok (.iconst 2, 1) := by decide +kernel
theorem dX8_inBox_28 : decode cX8_inBox 28 = .ok (.invokevirtual 71, 3) := by decide +kernel
theorem dX8_inBox_31 : decode cX8_inBox 31 = .ok (.iload_n 1, 1) := by decide +kernel
theorem dX8_inBox_32 : decode cX8_inBox 32 = .ok (.if_icmp .ne 25, 3) := by decide +kernel
theorem dX8_inBox_35 : decode cX8_inBox 35 = .ok (.iload_n 2, 1) := by decide +kernel
theorem dX8_inBox_36 : decode cX8_inBox 36 = .ok (.iload_n 3, 1) := by decide +kernel
theorem dX8_inBox_37 : decode cX8_inBox 37 = .ok (.aload_n 0, 1) := by decide +kernel
theorem dX8_inBox_38 : decode cX8_inBox 38 = .ok (.iload 5, 2) := by decide +kernel
theorem dX8_inBox_40 : decode cX8_inBox 40 = .ok (.iconst 0, 1) := by decide +kernel
theorem dX8_inBox_41 : decode cX8_inBox 41 = .ok (.invokevirtual 71, 3) := by decide +kernel
theorem dX8_inBox_44 : decode cX8_inBox 44 = .ok (.aload_n 0, 1) := by decide +kernel
theorem dX8_inBox_45 : decode cX8_inBox 45 = .ok (.iload 5, 2) := by decide +kernel
theorem dX8_inBox_47 : decode cX8_inBox 47 = .ok (.iconst 1, 1) := by decide +kernel
theorem dX8_inBox_48 : decode cX8_inBox 48 = .ok (.invokevirtual 71, 3) := by decide +kernel
theorem dX8_inBox_51 : decode cX8_inBox 51 = .ok (.invokestatic 74, 3) := by decide +kernel
theorem dX8_inBox_54 : decode cX8_inBox 54 = .ok (.goto 4, 3) := by decide +kernel
theorem dX8_inBox_57 : decode cX8_inBox 57 = .ok (.iconst 0, 1) := by decide +kernel
theorem dX8_inBox_58 : decode cX8_inBox 58 = .ok (.iadd, 1) := by decide +kernel
theorem dX8_inBox_59 : decode cX8_inBox 59 = .ok (.istore 4, 2) := by decide +kernel
theorem dX8_inBox_61 : decode cX8_inBox 61 = .ok (.iinc 5 1, 3) := by decide +kernel
theorem dX8_inBox_64 : decode cX8_inBox 64 = .ok (.goto (-58), 3) := by decide +kernel
theorem dX8_inBox_67 : decode cX8_inBox 67 = .ok (.iload 4, 2) := by decide +kernel
theorem dX8_inBox_69 : decode cX8_inBox 69 = .ok (.ireturn, 1) := by decide +kernel
theorem dX8_load_0 : decode cX8_load 0 = .ok (.aload_n 0, 1) := by decide +kernel
theorem dX8_load_1 : decode cX8_load 1 = .ok (.iload_n 1, 1) := by decide +kernel
theorem dX8_load_2 : decode cX8_load 2 = .ok (.iconst 1, 1) := by decide +kernel
theorem dX8_load_3 : decode cX8_load 3 = .ok (.ldc 78, 2) := by decide +kernel
theorem dX8_load_5 : decode cX8_load 5 = .ok (.invokevirtual 79, 3) := by decide +kernel
theorem dX8_load_8 : decode cX8_load 8 = .ok (.ireturn, 1) := by decide +kernel
theorem dX8_puts_0 : decode cX8_puts 0 = .ok (.iload_n 1, 1) := by decide +kernel
theorem dX8_puts_1 : decode cX8_puts 1 = .ok (.iload_n 2, 1) := by decide +kernel
theorem dX8_puts_2 : decode cX8_puts 2 = .ok (.if_icmp .le 4, 3) := by decide +kernel
theorem dX8_puts_5 : decode cX8_puts 5 = .ok (.return_, 1) := by decide +kernel
theorem dX8_puts_6 : decode cX8_puts 6 = .ok (.aload_n 0, 1) := by decide +kernel
theorem dX8_puts_7 : decode cX8_puts 7 = .ok (.getfield 83, 3) := by decide +kernel
theorem dX8_puts_10 : decode cX8_puts 10 = .ok (.istore 4, 2) := by decide +kernel
theorem dX8_puts_12 : decode cX8_puts 12 = .ok (.iload 4, 2) := by decide +kernel
theorem dX8_puts_14 : decode cX8_puts 14 = .ok (.ifCond .le 88, 3) := by decide +kernel
theorem dX8_puts_17 : decode cX8_puts 17 = .ok (.aload_n 0, 1) := by decide +kernel
theorem dX8_puts_18 : decode cX8_puts 18 = .ok (.getfield 22, 3) := by decide +kernel
theorem dX8_puts_21 : decode cX8_puts 21 = .ok (.iconst 3, 1) := by decide +kernel
theorem dX8_puts_22 : decode cX8_puts 22 = .ok (.iload 4, 2) := by decide +kernel
theorem dX8_puts_24 : decode cX8_puts 24 = .ok (.imul, 1) := by decide +kernel
theorem dX8_puts_25 : decode cX8_puts 25 = .ok (.iconst 3, 1) := by decide +kernel
theorem dX8_puts_26 : decode cX8_puts 26 = .ok (.isub, 1) := by decide +kernel
theorem dX8_puts_27 : decode cX8_puts 27 = .ok (.iaload, 1) := by decide +kernel
theorem dX8_puts_28 : decode cX8_puts 28 = .ok (.iload_n 1, 1) := by decide +kernel
theorem dX8_puts_29 : decode cX8_puts 29 = .ok (.if_icmp .le 73, 3) := by decide +kernel
theorem dX8_puts_32 : decode cX8_puts 32 = .ok (.aload_n 0, 1) := by decide +kernel
theorem dX8_puts_33 : decode cX8_puts 33 = .ok (.getfield 22, 3) := by decide +kernel
theorem dX8_puts_36 : decode cX8_puts 36 = .ok (.iconst 3, 1) := by decide +kernel
theorem dX8_puts_37 : decode cX8_puts 37 = .ok (.iload 4, 2) := by decide +kernel
theorem dX8_puts_39 : decode cX8_puts 39 = .ok (.imul, 1) := by decide +kernel
theorem dX8_puts_40 : decode cX8_puts 40 = .ok (.aload_n 0, 1) := by decide +kernel
theorem dX8_puts_41 : decode cX8_puts 41 = .ok (.getfield 22, 3) := by decide +kernel
theorem dX8_puts_44 : decode cX8_puts 44 = .ok (.iconst 3, 1) := by decide +kernel
theorem dX8_puts_45 : decode cX8_puts 45 = .ok (.iload 4, 2) := by decide +kernel
theorem dX8_puts_47 : decode cX8_puts 47 = .ok (.imul, 1) := by decide +kernel
theorem dX8_puts_48 : decode cX8_puts 48 = .ok (.iconst 3, 1) := by decide +kernel
theorem dX8_puts_49 : decode cX8_puts 49 = .ok (.isub, 1) := by decide +kernel
theorem dX8_puts_50 : decode cX8_puts 50 = .ok (.iaload, 1) := by decide +kernel
theorem dX8_puts_51 : decode cX8_puts 51 = .ok (.iastore, 1) := by decide +kernel
theorem dX8_puts_52 : decode cX8_puts 52 = .ok (.aload_n 0, 1) := by decide +kernel
theorem dX8_puts_53 : decode cX8_puts 53 = .ok (.getfield 22, 3) := by decide +kernel
theorem dX8_puts_56 : decode cX8_puts 56 = .ok (.iconst 3, 1) := by decide +kernel
theorem dX8_puts_57 : decode cX8_puts 57 = .ok (.iload 4, 2) := by decide +kernel
theorem dX8_puts_59 : decode cX8_puts 59 = .ok (.imul, 1) := by decide +kernel
theorem dX8_puts_60 : decode cX8_puts 60 = .ok (.iconst 1, 1) := by decide +kernel
theorem dX8_puts_61 : decode cX8_puts 61 = .ok (.iadd, 1) := by decide +kernel
theorem dX8_puts_62 : decode cX8_puts 62 = .ok (.aload_n 0, 1) := by decide +kernel
theorem dX8_puts_63 : decode cX8_puts 63 = .ok (.getfield 22, 3) := by decide +kernel
theorem dX8_puts_66 : decode cX8_puts 66 = .ok (.iconst 3, 1) := by decide +kernel
theorem dX8_puts_67 : decode cX8_puts 67 = .ok (.iload 4, 2) := by decide +kernel
theorem dX8_puts_69 : decode cX8_puts 69 = .ok (.imul, 1) := by decide +kernel
theorem dX8_puts_70 : decode cX8_puts 70 = .ok (.iconst 2, 1) := by decide +kernel
theorem dX8_puts_71 : decode cX8_puts 71 = .ok (.isub, 1) := by decide +kernel
theorem dX8_puts_72 : decode cX8_puts 72 = .ok (.iaload, 1) := by decide +kernel
theorem dX8_puts_73 : decode cX8_puts 73 = .ok (.iastore, 1) := by decide +kernel
theorem dX8_puts_74 : decode cX8_puts 74 = .ok (.aload_n 0, 1) := by decide +kernel
theorem dX8_puts_75 : decode cX8_puts 75 = .ok (.getfield 22, 3) := by decide +kernel
theorem dX8_puts_78 : decode cX8_puts 78 = .ok (.iconst 3, 1) := by decide +kernel
theorem dX8_puts_79 : decode cX8_puts 79 = .ok (.iload 4, 2) := by decide +kernel
theorem dX8_puts_81 : decode cX8_puts 81 = .ok (.imul, 1) := by decide +kernel
theorem dX8_puts_82 : decode cX8_puts 82 = .ok (.iconst 2, 1) := by decide +kernel
theorem dX8_puts_83 : decode cX8_puts 83 = .ok (.iadd, 1) := by decide +kernel
theorem dX8_puts_84 : decode cX8_puts 84 = .ok (.aload_n 0, 1) := by decide +kernel
theorem dX8_puts_85 : decode cX8_puts 85 = .ok (.getfield 22, 3) := by decide +kernel
theorem dX8_puts_88 : decode cX8_puts 88 = .ok (.iconst 3, 1) := by decide +kernel
theorem dX8_puts_89 : decode cX8_puts 89 = .ok (.iload 4, 2) := by decide +kernel
theorem dX8_puts_91 : decode cX8_puts 91 = .ok (.imul, 1) := by decide +kernel
theorem dX8_puts_92 : decode cX8_puts 92 = .ok (.iconst 1, 1) := by decide +kernel
theorem dX8_puts_93 : decode cX8_puts 93 = .ok (.isub, 1) := by decide +kernel
theorem dX8_puts_94 : decode cX8_puts 94 = .ok (.iaload, 1) := by decide +kernel
theorem dX8_puts_95 : decode cX8_puts 95 = .ok (.iastore, 1) := by decide +kernel
theorem dX8_puts_96 : decode cX8_puts 96 = .ok (.iinc 4 (-1), 3) := by decide +kernel
theorem dX8_puts_99 : decode cX8_puts 99 = .ok (.goto (-87), 3) := by decide +kernel
theorem dX8_puts_102 : decode cX8_puts 102 = .ok (.aload_n 0, 1) := by decide +kernel
theorem dX8_puts_103 : decode cX8_puts 103 = .ok (.getfield 22, 3) := by decide +kernel
theorem dX8_puts_106 : decode cX8_puts 106 = .ok (.iconst 3, 1) := by decide +kernel
theorem dX8_puts_107 : decode cX8_puts 107 = .ok (.iload 4, 2) := by decide +kernel
theorem dX8_puts_109 : decode cX8_puts 109 = .ok (.imul, 1) := by decide +kernel
theorem dX8_puts_110 : decode cX8_puts 110 = .ok (.iload_n 1, 1) := by decide +kernel
theorem dX8_puts_111 : decode cX8_puts 111 = .ok (.iastore, 1) := by decide +kernel
theorem dX8_puts_112 : decode cX8_puts 112 = .ok (.aload_n 0, 1) := by decide +kernel
theorem dX8_puts_113 : decode cX8_puts 113 = .ok (.getfield 22, 3) := by decide +kernel
theorem dX8_puts_116 : decode cX8_puts 116 = .ok (.iconst 3, 1) := by decide +kernel
theorem dX8_puts_117 : decode cX8_puts 117 = .ok (.iload 4, 2) := by decide +kernel
theorem dX8_puts_119 : decode cX8_puts 119 = .ok (.imul, 1) := by decide +kernel
theorem dX8_puts_120 : decode cX8_puts 120 = .ok (.iconst 1, 1) := by decide +kernel
theorem dX8_puts_121 : decode cX8_puts 121 = .ok (.iadd, 1) := by decide +kernel
theorem dX8_puts_122 : decode cX8_puts 122 = .ok (.iload_n 2, 1) := by decide +kernel
theorem dX8_puts_123 : decode cX8_puts 123 = .ok (.iastore, 1) := by decide +kernel
theorem dX8_puts_124 : decode cX8_puts 124 = .ok (.aload_n 0, 1) := by decide +kernel
theorem dX8_puts_125 : decode cX8_puts 125 = .ok (.getfield 22, 3) := by decide +kernel
theorem dX8_puts_128 : decode cX8_puts 128 = .ok (.iconst 3, 1) := by decide +kernel
theorem dX8_puts_129 : decode cX8_puts 129 = .ok (.iload 4, 2) := by decide +kernel
theorem dX8_puts_131 : decode cX8_puts 131 = .ok (.imul, 1) := by decide +kernel
theorem dX8_puts_132 : decode cX8_puts 132 = .ok (.iconst 2, 1) := by decide +kernel
theorem dX8_puts_133 : decode cX8_puts 133 = .ok (.iadd, 1) := by decide +kernel
theorem dX8_puts_134 : decode cX8_puts 134 = .ok (.iload_n 3, 1) := by decide +kernel
theorem dX8_puts_135 : decode cX8_puts 135 = .ok (.iastore, 1) := by decide +kernel
theorem dX8_puts_136 : decode cX8_puts 136 = .ok (.aload_n 0, 1) := by decide +kernel
theorem dX8_puts_137 : decode cX8_puts 137 = .ok (.dup, 1) := by decide +kernel
theorem dX8_puts_138 : decode cX8_puts 138 = .ok (.getfield 83, 3) := by decide +kernel
theorem dX8_puts_141 : decode cX8_puts 141 = .ok (.iconst 1, 1) := by decide +kernel
theorem dX8_puts_142 : decode cX8_puts 142 = .ok (.iadd, 1) := by decide +kernel
theorem dX8_puts_143 : decode cX8_puts 143 = .ok (.putfield 83, 3) := by decide +kernel
theorem dX8_puts_146 : decode cX8_puts 146 = .ok (.return_, 1) := by decide +kernel
theorem dX8_lays_0 : decode cX8_lays 0 = .ok (.aload_n 0, 1) := by decide +kernel
theorem dX8_lays_1 : decode cX8_lays 1 = .ok (.iconst 0, 1) := by decide +kernel
theorem dX8_lays_2 : decode cX8_lays 2 = .ok (.putfield 83, 3) := by decide +kernel
theorem dX8_lays_5 : decode cX8_lays 5 = .ok (.iconst 0, 1) := by decide +kernel
theorem dX8_lays_6 : decode cX8_lays 6 = .ok (.istore 4, 2) := by decide +kernel
theorem dX8_lays_8 : decode cX8_lays 8 = .ok (.iload 4, 2) := by decide +kernel
theorem dX8_lays_10 : decode cX8_lays 10 = .ok (.aload_n 0, 1) := by decide +kernel
theorem dX8_lays_11 : decode cX8_lays 11 = .ok (.getfield 7, 3) := by decide +kernel
theorem dX8_lays_14 : decode cX8_lays 14 = .ok (.iconst 1, 1) := by decide +kernel
theorem dX8_lays_15 : decode cX8_lays 15 = .ok (.iaload, 1) := by decide +kernel
theorem dX8_lays_16 : decode cX8_lays 16 = .ok (.if_icmp .ge 69, 3) := by decide +kernel
theorem dX8_lays_19 : decode cX8_lays 19 = .ok (.aload_n 0, 1) := by decide +kernel
theorem dX8_lays_20 : decode cX8_lays 20 = .ok (.iload 4, 2) := by decide +kernel
theorem dX8_lays_22 : decode cX8_lays 22 = .ok (.iconst 0, 1) := by decide +kernel
theorem dX8_lays_23 : decode cX8_lays 23 = .ok (.invokevirtual 71, 3) := by decide +kernel
theorem dX8_lays_26 : decode cX8_lays 26 = .ok (.istore 5, 2) := by decide +kernel
theorem dX8_lays_28 : decode cX8_lays 28 = .ok (.aload_n 0, 1) := by decide +kernel
theorem dX8_lays_29 : decode cX8_lays 29 = .ok (.iload 4, 2) := by decide +kernel
theorem dX8_lays_31 : decode cX8_lays 31 = .ok (.iconst 1, 1) := by decide +kernel
theorem dX8_lays_32 : decode cX8_lays 32 = .ok (.invokevirtual 71, 3) := by decide +kernel
theorem dX8_lays_35 : decode cX8_lays 35 = .ok (.istore 6, 2) := by decide +kernel
theorem dX8_lays_37 : decode cX8_lays 37 = .ok (.aload_n 0, 1) := by decide +kernel
theorem dX8_lays_38 : decode cX8_lays 38 = .ok (.iload 5, 2) := by decide +kernel
theorem dX8_lays_40 : decode cX8_lays 40 = .ok (.iload 6, 2) := by decide +kernel
theorem dX8_lays_42 : decode cX8_lays 42 = .ok (.iload_n 1, 1) := by decide +kernel
theorem dX8_lays_43 : decode cX8_lays 43 = .ok (.iconst 1, 1) := by decide +kernel
theorem dX8_lays_44 : decode cX8_lays 44 = .ok (.isub, 1) := by decide +kernel
theorem dX8_lays_45 : decode cX8_lays 45 = .ok (.invokestatic 68, 3) := by decide +kernel
theorem dX8_lays_48 : decode cX8_lays 48 = .ok (.aload_n 0, 1) := by decide +kernel
theorem dX8_lays_49 : decode cX8_lays 49 = .ok (.iload 4, 2) := by decide +kernel
theorem dX8_lays_51 : decode cX8_lays 51 = .ok (.iconst 2, 1) := by decide +kernel
theorem dX8_lays_52 : decode cX8_lays 52 = .ok (.invokevirtual 71, 3) := by decide +kernel
theorem dX8_lays_55 : decode cX8_lays 55 = .ok (.invokevirtual 86, 3) := by decide +kernel
theorem dX8_lays_58 : decode cX8_lays 58 = .ok (.aload_n 0, 1) := by decide +kernel
theorem dX8_lays_59 : decode cX8_lays 59 = .ok (.iload 5, 2) := by decide +kernel
theorem dX8_lays_61 : decode cX8_lays 61 = .ok (.iload_n 2, 1) := by decide +kernel
theorem dX8_lays_62 : decode cX8_lays 62 = .ok (.iconst 1, 1) := by decide +kernel
theorem dX8_lays_63 : decode cX8_lays 63 = .ok (.iadd, 1) := by decide +kernel
theorem dX8_lays_64 : decode cX8_lays 64 = .ok (.invokestatic 64, 3) := by decide +kernel
theorem dX8_lays_67 : decode cX8_lays 67 = .ok (.iload 6, 2) := by decide +kernel
theorem dX8_lays_69 : decode cX8_lays 69 = .ok (.aload_n 0, 1) := by decide +kernel
theorem dX8_lays_70 : decode cX8_lays 70 = .ok (.iload 4, 2) := by decide +kernel
theorem dX8_lays_72 : decode cX8_lays 72 = .ok (.iconst 2, 1) := by decide +kernel
theorem dX8_lays_73 : decode cX8_lays 73 = .ok (.invokevirtual 71, 3) := by decide +kernel
theorem dX8_lays_76 : decode cX8_lays 76 = .ok (.invokevirtual 86, 3) := by decide +kernel
theorem dX8_lays_79 : decode cX8_lays 79 = .ok (.iinc 4 1, 3) := by decide +kernel
theorem dX8_lays_82 : decode cX8_lays 82 = .ok (.goto (-74), 3) := by decide +kernel
theorem dX8_lays_85 : decode cX8_lays 85 = .ok (.iload_n 3, 1) := by decide +kernel
theorem dX8_lays_86 : decode cX8_lays 86 = .ok (.iconst (-1), 1) := by decide +kernel
theorem dX8_lays_87 : decode cX8_lays 87 = .ok (.if_icmp .eq 10, 3) := by decide +kernel
theorem dX8_lays_90 : decode cX8_lays 90 = .ok (.aload_n 0, 1) := by decide +kernel
theorem dX8_lays_91 : decode cX8_lays 91 = .ok (.iload_n 1, 1) := by decide +kernel
theorem dX8_lays_92 : decode cX8_lays 92 = .ok (.iload_n 2, 1) := by decide +kernel
theorem dX8_lays_93 : decode cX8_lays 93 = .ok (.iload_n 3, 1) := by decide +kernel
theorem dX8_lays_94 : decode cX8_lays 94 = .ok (.invokevirtual 86, 3) := by decide +kernel
theorem dX8_lays_97 : decode cX8_lays 97 = .ok (.iconst 0, 1) := by decide +kernel
theorem dX8_lays_98 : decode cX8_lays 98 = .ok (.istore 4, 2) := by decide +kernel
theorem dX8_lays_100 : decode cX8_lays 100 = .ok (.iconst 1, 1) := by decide +kernel
theorem dX8_lays_101 : decode cX8_lays 101 = .ok (.istore 5, 2) := by decide +kernel
theorem dX8_lays_103 : decode cX8_lays 103 = .ok (.iload 5, 2) := by decide +kernel
theorem dX8_lays_105 : decode cX8_lays 105 = .ok (.aload_n 0, 1) := by decide +kernel
theorem dX8_lays_106 : decode cX8_lays 106 = .ok (.getfield 83, 3) := by decide +kernel
theorem dX8_lays_109 : decode cX8_lays 109 = .ok (.if_icmp .ge 149, 3) := by decide +kernel
theorem dX8_lays_112 : decode cX8_lays 112 = .ok (.aload_n 0, 1) := by decide +kernel
theorem dX8_lays_113 : decode cX8_lays 113 = .ok (.getfield 22, 3) := by decide +kernel
theorem dX8_lays_116 : decode cX8_lays 116 = .ok (.iconst 3, 1) := by decide +kernel
theorem dX8_lays_117 : decode cX8_lays 117 = .ok (.iload 5, 2) := by decide +kernel
theorem dX8_lays_119 : decode cX8_lays 119 = .ok (.imul, 1) := by decide +kernel
theorem dX8_lays_120 : decode cX8_lays 120 = .ok (.iaload, 1) := by decide +kernel
theorem dX8_lays_121 : decode cX8_lays 121 = .ok (.aload_n 0, 1) := by decide +kernel
theorem dX8_lays_122 : decode cX8_lays 122 = .ok (.getfield 22, 3) := by decide +kernel
theorem dX8_lays_125 : decode cX8_lays 125 = .ok (.iconst 3, 1) := by decide +kernel
theorem dX8_lays_126 : decode cX8_lays 126 = .ok (.iload 4, 2) := by decide +kernel
theorem dX8_lays_128 : decode cX8_lays 128 = .ok (.imul, 1) := by decide +kernel
theorem dX8_lays_129 : decode cX8_lays 129 = .ok (.iconst 1, 1) := by decide +kernel
theorem dX8_lays_130 : decode cX8_lays 130 = .ok (.iadd, 1) := by decide +kernel
theorem dX8_lays_131 : decode cX8_lays 131 = .ok (.iaload, 1) := by decide +kernel
theorem dX8_lays_132 : decode cX8_lays 132 = .ok (.iconst 1, 1) := by decide +kernel
theorem dX8_lays_133 : decode cX8_lays 133 = .ok (.iadd, 1) := by decide +kernel
theorem dX8_lays_134 : decode cX8_lays 134 = .ok (.if_icmp .ne 53, 3) := by decide +kernel
theorem dX8_lays_137 : decode cX8_lays 137 = .ok (.aload_n 0, 1) := by decide +kernel
theorem dX8_lays_138 : decode cX8_lays 138 = .ok (.getfield 22, 3) := by decide +kernel
theorem dX8_lays_141 : decode cX8_lays 141 = .ok (.iconst 3, 1) := by decide +kernel
theorem dX8_lays_142 : decode cX8_lays 142 = .ok (.iload 5, 2) := by decide +kernel
theorem dX8_lays_144 : decode cX8_lays 144 = .ok (.imul, 1) := by decide +kernel
theorem dX8_lays_145 : decode cX8_lays 145 = .ok (.iconst 2, 1) := by decide +kernel
theorem dX8_lays_146 : decode cX8_lays 146 = .ok (.iadd, 1) := by decide +kernel
theorem dX8_lays_147 : decode cX8_lays 147 = .ok (.iaload, 1) := by decide +kernel
theorem dX8_lays_148 : decode cX8_lays 148 = .ok (.aload_n 0, 1) := by decide +kernel
theorem dX8_lays_149 : decode cX8_lays 149 = .ok (.getfield 22, 3) := by decide +kernel
theorem dX8_lays_152 : decode cX8_lays 152 = .ok (.iconst 3, 1) := by decide +kernel
theorem dX8_lays_153 : decode cX8_lays 153 = .ok (.iload 4, 2) := by decide +kernel
theorem dX8_lays_155 : decode cX8_lays 155 = .ok (.imul, 1) := by decide +kernel
theorem dX8_lays_156 : decode cX8_lays 156 = .ok (.iconst 2, 1) := by decide +kernel
