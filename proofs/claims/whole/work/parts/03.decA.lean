theorem dX0_init_0 : decode cX0_init 0 = .ok (.aload_n 0, 1) := by decide +kernel
theorem dX0_init_1 : decode cX0_init 1 = .ok (.invokespecial 3, 3) := by decide +kernel
theorem dX0_init_4 : decode cX0_init 4 = .ok (.aload_n 0, 1) := by decide +kernel
theorem dX0_init_5 : decode cX0_init 5 = .ok (.new 9, 3) := by decide +kernel
theorem dX0_init_8 : decode cX0_init 8 = .ok (.dup, 1) := by decide +kernel
theorem dX0_init_9 : decode cX0_init 9 = .ok (.bipush 30, 2) := by decide +kernel
theorem dX0_init_11 : decode cX0_init 11 = .ok (.invokespecial 11, 3) := by decide +kernel
theorem dX0_init_14 : decode cX0_init 14 = .ok (.putfield 14, 3) := by decide +kernel
theorem dX0_init_17 : decode cX0_init 17 = .ok (.aload_n 0, 1) := by decide +kernel
theorem dX0_init_18 : decode cX0_init 18 = .ok (.new 9, 3) := by decide +kernel
theorem dX0_init_21 : decode cX0_init 21 = .ok (.dup, 1) := by decide +kernel
theorem dX0_init_22 : decode cX0_init 22 = .ok (.bipush 40, 2) := by decide +kernel
theorem dX0_init_24 : decode cX0_init 24 = .ok (.invokespecial 11, 3) := by decide +kernel
theorem dX0_init_27 : decode cX0_init 27 = .ok (.putfield 20, 3) := by decide +kernel
theorem dX0_init_30 : decode cX0_init 30 = .ok (.aload_n 0, 1) := by decide +kernel
theorem dX0_init_31 : decode cX0_init 31 = .ok (.iconst 0, 1) := by decide +kernel
theorem dX0_init_32 : decode cX0_init 32 = .ok (.putfield 23, 3) := by decide +kernel
theorem dX0_init_35 : decode cX0_init 35 = .ok (.aload_n 0, 1) := by decide +kernel
theorem dX0_init_36 : decode cX0_init 36 = .ok (.iconst 0, 1) := by decide +kernel
theorem dX0_init_37 : decode cX0_init 37 = .ok (.putfield 27, 3) := by decide +kernel
theorem dX0_init_40 : decode cX0_init 40 = .ok (.return_, 1) := by decide +kernel
theorem dX0_read_0 : decode cX0_read 0 = .ok (.aload_n 1, 1) := by decide +kernel
theorem dX0_read_1 : decode cX0_read 1 = .ok (.iconst 4, 1) := by decide +kernel
theorem dX0_read_2 : decode cX0_read 2 = .ok (.invokevirtual 30, 3) := by decide +kernel
theorem dX0_read_5 : decode cX0_read 5 = .ok (.bipush 115, 2) := by decide +kernel
theorem dX0_read_7 : decode cX0_read 7 = .ok (.if_icmp .ne 7, 3) := by decide +kernel
theorem dX0_read_10 : decode cX0_read 10 = .ok (.iconst 1, 1) := by decide +kernel
theorem dX0_read_11 : decode cX0_read 11 = .ok (.goto 4, 3) := by decide +kernel
theorem dX0_read_14 : decode cX0_read 14 = .ok (.iconst 0, 1) := by decide +kernel
theorem dX0_read_15 : decode cX0_read 15 = .ok (.istore_n 2, 1) := by decide +kernel
theorem dX0_read_16 : decode cX0_read 16 = .ok (.iload_n 2, 1) := by decide +kernel
theorem dX0_read_17 : decode cX0_read 17 = .ok (.ifCond .eq 8, 3) := by decide +kernel
theorem dX0_read_20 : decode cX0_read 20 = .ok (.ldc 34, 2) := by decide +kernel
theorem dX0_read_22 : decode cX0_read 22 = .ok (.goto 5, 3) := by decide +kernel
theorem dX0_read_25 : decode cX0_read 25 = .ok (.ldc 36, 2) := by decide +kernel
theorem dX0_read_27 : decode cX0_read 27 = .ok (.astore_n 3, 1) := by decide +kernel
theorem dX0_read_28 : decode cX0_read 28 = .ok (.aload_n 1, 1) := by decide +kernel
theorem dX0_read_29 : decode cX0_read 29 = .ok (.aload_n 3, 1) := by decide +kernel
theorem dX0_read_30 : decode cX0_read 30 = .ok (.invokevirtual 38, 3) := by decide +kernel
theorem dX0_read_33 : decode cX0_read 33 = .ok (.istore 4, 2) := by decide +kernel
theorem dX0_read_35 : decode cX0_read 35 = .ok (.iload 4, 2) := by decide +kernel
theorem dX0_read_37 : decode cX0_read 37 = .ok (.aload_n 3, 1) := by decide +kernel
theorem dX0_read_38 : decode cX0_read 38 = .ok (.invokevirtual 42, 3) := by decide +kernel
theorem dX0_read_41 : decode cX0_read 41 = .ok (.if_icmp .ge 8, 3) := by decide +kernel
theorem dX0_read_44 : decode cX0_read 44 = .ok (.iconst (-1), 1) := by decide +kernel
theorem dX0_read_45 : decode cX0_read 45 = .ok (.iload 4, 2) := by decide +kernel
theorem dX0_read_47 : decode cX0_read 47 = .ok (.isub, 1) := by decide +kernel
theorem dX0_read_48 : decode cX0_read 48 = .ok (.ireturn, 1) := by decide +kernel
theorem dX0_read_49 : decode cX0_read 49 = .ok (.aload_n 1, 1) := by decide +kernel
theorem dX0_read_50 : decode cX0_read 50 = .ok (.iload 4, 2) := by decide +kernel
theorem dX0_read_52 : decode cX0_read 52 = .ok (.invokestatic 48, 3) := by decide +kernel
theorem dX0_read_55 : decode cX0_read 55 = .ok (.istore 5, 2) := by decide +kernel
theorem dX0_read_57 : decode cX0_read 57 = .ok (.aload_n 1, 1) := by decide +kernel
theorem dX0_read_58 : decode cX0_read 58 = .ok (.iload 4, 2) := by decide +kernel
theorem dX0_read_60 : decode cX0_read 60 = .ok (.iload 5, 2) := by decide +kernel
theorem dX0_read_62 : decode cX0_read 62 = .ok (.invokestatic 54, 3) := by decide +kernel
theorem dX0_read_65 : decode cX0_read 65 = .ok (.ifCond .ne 8, 3) := by decide +kernel
theorem dX0_read_68 : decode cX0_read 68 = .ok (.iconst (-1), 1) := by decide +kernel
theorem dX0_read_69 : decode cX0_read 69 = .ok (.iload 5, 2) := by decide +kernel
theorem dX0_read_71 : decode cX0_read 71 = .ok (.isub, 1) := by decide +kernel
theorem dX0_read_72 : decode cX0_read 72 = .ok (.ireturn, 1) := by decide +kernel
theorem dX0_read_73 : decode cX0_read 73 = .ok (.aload_n 1, 1) := by decide +kernel
theorem dX0_read_74 : decode cX0_read 74 = .ok (.iload 5, 2) := by decide +kernel
theorem dX0_read_76 : decode cX0_read 76 = .ok (.invokestatic 58, 3) := by decide +kernel
theorem dX0_read_79 : decode cX0_read 79 = .ok (.istore 6, 2) := by decide +kernel
theorem dX0_read_81 : decode cX0_read 81 = .ok (.iload 6, 2) := by decide +kernel
theorem dX0_read_83 : decode cX0_read 83 = .ok (.aload_n 1, 1) := by decide +kernel
theorem dX0_read_84 : decode cX0_read 84 = .ok (.getfield 61, 3) := by decide +kernel
theorem dX0_read_87 : decode cX0_read 87 = .ok (.if_icmp .ge 19, 3) := by decide +kernel
theorem dX0_read_90 : decode cX0_read 90 = .ok (.aload_n 1, 1) := by decide +kernel
theorem dX0_read_91 : decode cX0_read 91 = .ok (.iload 6, 2) := by decide +kernel
theorem dX0_read_93 : decode cX0_read 93 = .ok (.invokevirtual 30, 3) := by decide +kernel
theorem dX0_read_96 : decode cX0_read 96 = .ok (.bipush 63, 2) := by decide +kernel
theorem dX0_read_98 : decode cX0_read 98 = .ok (.if_icmp .eq 8, 3) := by decide +kernel
theorem dX0_read_101 : decode cX0_read 101 = .ok (.iconst (-1), 1) := by decide +kernel
theorem dX0_read_102 : decode cX0_read 102 = .ok (.iload 6, 2) := by decide +kernel
theorem dX0_read_104 : decode cX0_read 104 = .ok (.isub, 1) := by decide +kernel
theorem dX0_read_105 : decode cX0_read 105 = .ok (.ireturn, 1) := by decide +kernel
theorem dX0_read_106 : decode cX0_read 106 = .ok (.aload_n 0, 1) := by decide +kernel
theorem dX0_read_107 : decode cX0_read 107 = .ok (.aload_n 1, 1) := by decide +kernel
theorem dX0_read_108 : decode cX0_read 108 = .ok (.iload 4, 2) := by decide +kernel
theorem dX0_read_110 : decode cX0_read 110 = .ok (.iload 5, 2) := by decide +kernel
theorem dX0_read_112 : decode cX0_read 112 = .ok (.iload 6, 2) := by decide +kernel
theorem dX0_read_114 : decode cX0_read 114 = .ok (.invokevirtual 64, 3) := by decide +kernel
theorem dX0_read_117 : decode cX0_read 117 = .ok (.aload_n 0, 1) := by decide +kernel
theorem dX0_read_118 : decode cX0_read 118 = .ok (.iload_n 2, 1) := by decide +kernel
theorem dX0_read_119 : decode cX0_read 119 = .ok (.putfield 27, 3) := by decide +kernel
theorem dX0_read_122 : decode cX0_read 122 = .ok (.iload_n 2, 1) := by decide +kernel
theorem dX0_read_123 : decode cX0_read 123 = .ok (.ifCond .eq 7, 3) := by decide +kernel
theorem dX0_read_126 : decode cX0_read 126 = .ok (.iconst 1, 1) := by decide +kernel
theorem dX0_read_127 : decode cX0_read 127 = .ok (.goto 4, 3) := by decide +kernel
theorem dX0_read_130 : decode cX0_read 130 = .ok (.iconst 0, 1) := by decide +kernel
theorem dX0_read_131 : decode cX0_read 131 = .ok (.ireturn, 1) := by decide +kernel
theorem dX0_endOfPath_0 : decode cX0_endOfPath 0 = .ok (.aload_n 0, 1) := by decide +kernel
theorem dX0_endOfPath_1 : decode cX0_endOfPath 1 = .ok (.iload_n 1, 1) := by decide +kernel
theorem dX0_endOfPath_2 : decode cX0_endOfPath 2 = .ok (.invokevirtual 30, 3) := by decide +kernel
theorem dX0_endOfPath_5 : decode cX0_endOfPath 5 = .ok (.bipush 47, 2) := by decide +kernel
theorem dX0_endOfPath_7 : decode cX0_endOfPath 7 = .ok (.if_icmp .eq 5, 3) := by decide +kernel
theorem dX0_endOfPath_10 : decode cX0_endOfPath 10 = .ok (.iload_n 1, 1) := by decide +kernel
theorem dX0_endOfPath_11 : decode cX0_endOfPath 11 = .ok (.ireturn, 1) := by decide +kernel
theorem dX0_endOfPath_12 : decode cX0_endOfPath 12 = .ok (.aload_n 0, 1) := by decide +kernel
theorem dX0_endOfPath_13 : decode cX0_endOfPath 13 = .ok (.bipush 63, 2) := by decide +kernel
theorem dX0_endOfPath_15 : decode cX0_endOfPath 15 = .ok (.iload_n 1, 1) := by decide +kernel
theorem dX0_endOfPath_16 : decode cX0_endOfPath 16 = .ok (.aload_n 0, 1) := by decide +kernel
theorem dX0_endOfPath_17 : decode cX0_endOfPath 17 = .ok (.getfield 61, 3) := by decide +kernel
theorem dX0_endOfPath_20 : decode cX0_endOfPath 20 = .ok (.iload_n 1, 1) := by decide +kernel
theorem dX0_endOfPath_21 : decode cX0_endOfPath 21 = .ok (.bipush 40, 2) := by decide +kernel
theorem dX0_endOfPath_23 : decode cX0_endOfPath 23 = .ok (.iadd, 1) := by decide +kernel
theorem dX0_endOfPath_24 : decode cX0_endOfPath 24 = .ok (.invokestatic 68, 3) := by decide +kernel
theorem dX0_endOfPath_27 : decode cX0_endOfPath 27 = .ok (.invokevirtual 74, 3) := by decide +kernel
theorem dX0_endOfPath_30 : decode cX0_endOfPath 30 = .ok (.ireturn, 1) := by decide +kernel
theorem dX0_fill_0 : decode cX0_fill 0 = .ok (.aload_n 0, 1) := by decide +kernel
theorem dX0_fill_1 : decode cX0_fill 1 = .ok (.getfield 14, 3) := by decide +kernel
theorem dX0_fill_4 : decode cX0_fill 4 = .ok (.aload_n 1, 1) := by decide +kernel
theorem dX0_fill_5 : decode cX0_fill 5 = .ok (.iload_n 2, 1) := by decide +kernel
theorem dX0_fill_6 : decode cX0_fill 6 = .ok (.iload_n 3, 1) := by decide +kernel
theorem dX0_fill_7 : decode cX0_fill 7 = .ok (.invokevirtual 78, 3) := by decide +kernel
theorem dX0_fill_10 : decode cX0_fill 10 = .ok (.aload_n 0, 1) := by decide +kernel
theorem dX0_fill_11 : decode cX0_fill 11 = .ok (.getfield 20, 3) := by decide +kernel
theorem dX0_fill_14 : decode cX0_fill 14 = .ok (.aload_n 1, 1) := by decide +kernel
theorem dX0_fill_15 : decode cX0_fill 15 = .ok (.iload_n 3, 1) := by decide +kernel
theorem dX0_fill_16 : decode cX0_fill 16 = .ok (.iload 4, 2) := by decide +kernel
theorem dX0_fill_18 : decode cX0_fill 18 = .ok (.invokevirtual 78, 3) := by decide +kernel
theorem dX0_fill_21 : decode cX0_fill 21 = .ok (.aload_n 0, 1) := by decide +kernel
theorem dX0_fill_22 : decode cX0_fill 22 = .ok (.getfield 20, 3) := by decide +kernel
theorem dX0_fill_25 : decode cX0_fill 25 = .ok (.getfield 61, 3) := by decide +kernel
theorem dX0_fill_28 : decode cX0_fill 28 = .ok (.ifCond .ne 12, 3) := by decide +kernel
theorem dX0_fill_31 : decode cX0_fill 31 = .ok (.aload_n 0, 1) := by decide +kernel
theorem dX0_fill_32 : decode cX0_fill 32 = .ok (.getfield 20, 3) := by decide +kernel
theorem dX0_fill_35 : decode cX0_fill 35 = .ok (.bipush 47, 2) := by decide +kernel
theorem dX0_fill_37 : decode cX0_fill 37 = .ok (.invokevirtual 82, 3) := by decide +kernel
theorem dX0_fill_40 : decode cX0_fill 40 = .ok (.aload_n 0, 1) := by decide +kernel
theorem dX0_fill_41 : decode cX0_fill 41 = .ok (.iconst 1, 1) := by decide +kernel
theorem dX0_fill_42 : decode cX0_fill 42 = .ok (.putfield 23, 3) := by decide +kernel
theorem dX0_fill_45 : decode cX0_fill 45 = .ok (.return_, 1) := by decide +kernel
theorem dX0_become_0 : decode cX0_become 0 = .ok (.aload_n 0, 1) := by decide +kernel
theorem dX0_become_1 : decode cX0_become 1 = .ok (.getfield 14, 3) := by decide +kernel
theorem dX0_become_4 : decode cX0_become 4 = .ok (.aload_n 1, 1) := by decide +kernel
theorem dX0_become_5 : decode cX0_become 5 = .ok (.getfield 14, 3) := by decide +kernel
theorem dX0_become_8 : decode cX0_become 8 = .ok (.invokevirtual 85, 3) := by decide +kernel
theorem dX0_become_11 : decode cX0_become 11 = .ok (.aload_n 0, 1) := by decide +kernel
theorem dX0_become_12 : decode cX0_become 12 = .ok (.getfield 20, 3) := by decide +kernel
theorem dX0_become_15 : decode cX0_become 15 = .ok (.aload_n 1, 1) := by decide +kernel
theorem dX0_become_16 : decode cX0_become 16 = .ok (.getfield 20, 3) := by decide +kernel
theorem dX0_become_19 : decode cX0_become 19 = .ok (.invokevirtual 85, 3) := by decide +kernel
theorem dX0_become_22 : decode cX0_become 22 = .ok (.aload_n 0, 1) := by decide +kernel
theorem dX0_become_23 : decode cX0_become 23 = .ok (.aload_n 1, 1) := by decide +kernel
theorem dX0_become_24 : decode cX0_become 24 = .ok (.getfield 23, 3) := by decide +kernel
theorem dX0_become_27 : decode cX0_become 27 = .ok (.putfield 23, 3) := by decide +kernel
theorem dX0_become_30 : decode cX0_become 30 = .ok (.aload_n 0, 1) := by decide +kernel
theorem dX0_become_31 : decode cX0_become 31 = .ok (.aload_n 1, 1) := by decide +kernel
theorem dX0_become_32 : decode cX0_become 32 = .ok (.getfield 27, 3) := by decide +kernel
theorem dX0_become_35 : decode cX0_become 35 = .ok (.putfield 27, 3) := by decide +kernel
theorem dX0_become_38 : decode cX0_become 38 = .ok (.return_, 1) := by decide +kernel
theorem dX1_init_0 : decode cX1_init 0 = .ok (.aload_n 0, 1) := by decide +kernel
theorem dX1_init_1 : decode cX1_init 1 = .ok (.invokespecial 3, 3) := by decide +kernel
theorem dX1_init_4 : decode cX1_init 4 = .ok (.aload_n 0, 1) := by decide +kernel
theorem dX1_init_5 : decode cX1_init 5 = .ok (.new 9, 3) := by decide +kernel
theorem dX1_init_8 : decode cX1_init 8 = .ok (.dup, 1) := by decide +kernel
theorem dX1_init_9 : decode cX1_init 9 = .ok (.bipush 16, 2) := by decide +kernel
theorem dX1_init_11 : decode cX1_init 11 = .ok (.invokespecial 11, 3) := by decide +kernel
theorem dX1_init_14 : decode cX1_init 14 = .ok (.putfield 14, 3) := by decide +kernel
theorem dX1_init_17 : decode cX1_init 17 = .ok (.aload_n 0, 1) := by decide +kernel
theorem dX1_init_18 : decode cX1_init 18 = .ok (.new 9, 3) := by decide +kernel
theorem dX1_init_21 : decode cX1_init 21 = .ok (.dup, 1) := by decide +kernel
theorem dX1_init_22 : decode cX1_init 22 = .ok (.bipush 32, 2) := by decide +kernel
theorem dX1_init_24 : decode cX1_init 24 = .ok (.invokespecial 11, 3) := by decide +kernel
theorem dX1_init_27 : decode cX1_init 27 = .ok (.putfield 20, 3) := by decide +kernel
theorem dX1_init_30 : decode cX1_init 30 = .ok (.aload_n 0, 1) := by decide +kernel
theorem dX1_init_31 : decode cX1_init 31 = .ok (.new 9, 3) := by decide +kernel
theorem dX1_init_34 : decode cX1_init 34 = .ok (.dup, 1) := by decide +kernel
theorem dX1_init_35 : decode cX1_init 35 = .ok (.bipush 30, 2) := by decide +kernel
theorem dX1_init_37 : decode cX1_init 37 = .ok (.invokespecial 11, 3) := by decide +kernel
theorem dX1_init_40 : decode cX1_init 40 = .ok (.putfield 23, 3) := by decide +kernel
theorem dX1_init_43 : decode cX1_init 43 = .ok (.aload_n 0, 1) := by decide +kernel
theorem dX1_init_44 : decode cX1_init 44 = .ok (.new 9, 3) := by decide +kernel
theorem dX1_init_47 : decode cX1_init 47 = .ok (.dup, 1) := by decide +kernel
theorem dX1_init_48 : decode cX1_init 48 = .ok (.bipush 40, 2) := by decide +kernel
theorem dX1_init_50 : decode cX1_init 50 = .ok (.invokespecial 11, 3) := by decide +kernel
theorem dX1_init_53 : decode cX1_init 53 = .ok (.putfield 26, 3) := by decide +kernel
theorem dX1_init_56 : decode cX1_init 56 = .ok (.return_, 1) := by decide +kernel
theorem dX1_become_0 : decode cX1_become 0 = .ok (.aload_n 0, 1) := by decide +kernel
theorem dX1_become_1 : decode cX1_become 1 = .ok (.getfield 14, 3) := by decide +kernel
theorem dX1_become_4 : decode cX1_become 4 = .ok (.aload_n 1, 1) := by decide +kernel
theorem dX1_become_5 : decode cX1_become 5 = .ok (.getfield 14, 3) := by decide +kernel
theorem dX1_become_8 : decode cX1_become 8 = .ok (.invokevirtual 29, 3) := by decide +kernel
theorem dX1_become_11 : decode cX1_become 11 = .ok (.aload_n 0, 1) := by decide +kernel
theorem dX1_become_12 : decode cX1_become 12 = .ok (.getfield 20, 3) := by decide +kernel
theorem dX1_become_15 : decode cX1_become 15 = .ok (.aload_n 1, 1) := by decide +kernel
theorem dX1_become_16 : decode cX1_become 16 = .ok (.getfield 20, 3) := by decide +kernel
theorem dX1_become_19 : decode cX1_become 19 = .ok (.invokevirtual 29, 3) := by decide +kernel
theorem dX1_become_22 : decode cX1_become 22 = .ok (.aload_n 0, 1) := by decide +kernel
theorem dX1_become_23 : decode cX1_become 23 = .ok (.getfield 23, 3) := by decide +kernel
theorem dX1_become_26 : decode cX1_become 26 = .ok (.aload_n 1, 1) := by decide +kernel
theorem dX1_become_27 : decode cX1_become 27 = .ok (.getfield 23, 3) := by decide +kernel
theorem dX1_become_30 : decode cX1_become 30 = .ok (.invokevirtual 29, 3) := by decide +kernel
theorem dX1_become_33 : decode cX1_become 33 = .ok (.aload_n 0, 1) := by decide +kernel
theorem dX1_become_34 : decode cX1_become 34 = .ok (.getfield 26, 3) := by decide +kernel
theorem dX1_become_37 : decode cX1_become 37 = .ok (.aload_n 1, 1) := by decide +kernel
theorem dX1_become_38 : decode cX1_become 38 = .ok (.getfield 26, 3) := by decide +kernel
theorem dX1_become_41 : decode cX1_become 41 = .ok (.invokevirtual 29, 3) := by decide +kernel
theorem dX1_become_44 : decode cX1_become 44 = .ok (.aload_n 0, 1) := by decide +kernel
theorem dX1_become_45 : decode cX1_become 45 = .ok (.aload_n 1, 1) := by decide +kernel
theorem dX1_become_46 : decode cX1_become 46 = .ok (.getfield 33, 3) := by decide +kernel
theorem dX1_become_49 : decode cX1_become 49 = .ok (.putfield 33, 3) := by decide +kernel
theorem dX1_become_52 : decode cX1_become 52 = .ok (.aload_n 0, 1) := by decide +kernel
theorem dX1_become_53 : decode cX1_become 53 = .ok (.aload_n 1, 1) := by decide +kernel
theorem dX1_become_54 : decode cX1_become 54 = .ok (.getfield 37, 3) := by decide +kernel
theorem dX1_become_57 : decode cX1_become 57 = .ok (.putfield 37, 3) := by decide +kernel
theorem dX1_become_60 : decode cX1_become 60 = .ok (.aload_n 0, 1) := by decide +kernel
theorem dX1_become_61 : decode cX1_become 61 = .ok (.aload_n 1, 1) := by decide +kernel
theorem dX1_become_62 : decode cX1_become 62 = .ok (.getfield 40, 3) := by decide +kernel
theorem dX1_become_65 : decode cX1_become 65 = .ok (.putfield 40, 3) := by decide +kernel
theorem dX1_become_68 : decode cX1_become 68 = .ok (.aload_n 0, 1) := by decide +kernel
theorem dX1_become_69 : decode cX1_become 69 = .ok (.aload_n 1, 1) := by decide +kernel
theorem dX1_become_70 : decode cX1_become 70 = .ok (.getfield 43, 3) := by decide +kernel
theorem dX1_become_73 : decode cX1_become 73 = .ok (.putfield 43, 3) := by decide +kernel
theorem dX1_become_76 : decode cX1_become 76 = .ok (.aload_n 0, 1) := by decide +kernel
theorem dX1_become_77 : decode cX1_become 77 = .ok (.aload_n 1, 1) := by decide +kernel
theorem dX1_become_78 : decode cX1_become 78 = .ok (.getfield 47, 3) := by decide +kernel
theorem dX1_become_81 : decode cX1_become 81 = .ok (.putfield 47, 3) := by decide +kernel
theorem dX1_become_84 : decode cX1_become 84 = .ok (.aload_n 0, 1) := by decide +kernel
theorem dX1_become_85 : decode cX1_become 85 = .ok (.aload_n 1, 1) := by decide +kernel
theorem dX1_become_86 : decode cX1_become 86 = .ok (.getfield 51, 3) := by decide +kernel
theorem dX1_become_89 : decode cX1_become 89 = .ok (.putfield 51, 3) := by decide +kernel
theorem dX1_become_92 : decode cX1_become 92 = .ok (.aload_n 0, 1) := by decide +kernel
theorem dX1_become_93 : decode cX1_become 93 = .ok (.aload_n 1, 1) := by decide +kernel
theorem dX1_become_94 : decode cX1_become 94 = .ok (.getfield 54, 3) := by decide +kernel
theorem dX1_become_97 : decode cX1_become 97 = .ok (.putfield 54, 3) := by decide +kernel
theorem dX1_become_100 : decode cX1_become 100 = .ok (.aload_n 0, 1) := by decide +kernel
theorem dX1_become_101 : decode cX1_become 101 = .ok (.aload_n 1, 1) := by decide +kernel
theorem dX1_become_102 : decode cX1_become 102 = .ok (.getfield 57, 3) := by decide +kernel
theorem dX1_become_105 : decode cX1_become 105 = .ok (.putfield 57, 3) := by decide +kernel
theorem dX1_become_108 : decode cX1_become 108 = .ok (.aload_n 0, 1) := by decide +kernel
theorem dX1_become_109 : decode cX1_become 109 = .ok (.aload_n 1, 1) := by decide +kernel
theorem dX1_become_110 : decode cX1_become 110 = .ok (.getfield 60, 3) := by decide +kernel
theorem dX1_become_113 : decode cX1_become 113 = .ok (.putfield 60, 3) := by decide +kernel
theorem dX1_become_116 : decode cX1_become 116 = .ok (.return_, 1) := by decide +kernel
theorem dX1_compareInList_0 : decode cX1_compareInList 0 = .ok (.aload_n 0, 1) := by decide +kernel
theorem dX1_compareInList_1 : decode cX1_compareInList 1 = .ok (.getfield 23, 3) := by decide +kernel
theorem dX1_compareInList_4 : decode cX1_compareInList 4 = .ok (.aload_n 1, 1) := by decide +kernel
theorem dX1_compareInList_5 : decode cX1_compareInList 5 = .ok (.getfield 23, 3) := by decide +kernel
theorem dX1_compareInList_8 : decode cX1_compareInList 8 = .ok (.invokestatic 63, 3) := by decide +kernel
theorem dX1_compareInList_11 : decode cX1_compareInList 11 = .ok (.istore_n 2, 1) := by decide +kernel
theorem dX1_compareInList_12 : decode cX1_compareInList 12 = .ok (.iload_n 2, 1) := by decide +kernel
theorem dX1_compareInList_13 : decode cX1_compareInList 13 = .ok (.ifCond .ne 15, 3) := by decide +kernel
theorem dX1_compareInList_16 : decode cX1_compareInList 16 = .ok (.aload_n 0, 1) := by decide +kernel
theorem dX1_compareInList_17 : decode cX1_compareInList 17 = .ok (.getfield 26, 3) := by decide +kernel
theorem dX1_compareInList_20 : decode cX1_compareInList 20 = .ok (.aload_n 1, 1) := by decide +kernel
theorem dX1_compareInList_21 : decode cX1_compareInList 21 = .ok (.getfield 26, 3) := by decide +kernel
theorem dX1_compareInList_24 : decode cX1_compareInList 24 = .ok (.invokevirtual 69, 3) := by decide +kernel
theorem dX1_compareInList_27 : decode cX1_compareInList 27 = .ok (.istore_n 2, 1) := by decide +kernel
theorem dX1_compareInList_28 : decode cX1_compareInList 28 = .ok (.iload_n 2, 1) := by decide +kernel
theorem dX1_compareInList_29 : decode cX1_compareInList 29 = .ok (.ifCond .ne 15, 3) := by decide +kernel
theorem dX1_compareInList_32 : decode cX1_compareInList 32 = .ok (.aload_n 0, 1) := by decide +kernel
theorem dX1_compareInList_33 : decode cX1_compareInList 33 = .ok (.getfield 14, 3) := by decide +kernel
theorem dX1_compareInList_36 : decode cX1_compareInList 36 = .ok (.aload_n 1, 1) := by decide +kernel
theorem dX1_compareInList_37 : decode cX1_compareInList 37 = .ok (.getfield 14, 3) := by decide +kernel
theorem dX1_compareInList_40 : decode cX1_compareInList 40 = .ok (.invokevirtual 69, 3) := by decide +kernel
theorem dX1_compareInList_43 : decode cX1_compareInList 43 = .ok (.istore_n 2, 1) := by decide +kernel
theorem dX1_compareInList_44 : decode cX1_compareInList 44 = .ok (.iload_n 2, 1) := by decide +kernel
theorem dX1_compareInList_45 : decode cX1_compareInList 45 = .ok (.ifCond .ne 27, 3) := by decide +kernel
theorem dX1_compareInList_48 : decode cX1_compareInList 48 = .ok (.aload_n 0, 1) := by decide +kernel
theorem dX1_compareInList_49 : decode cX1_compareInList 49 = .ok (.getfield 47, 3) := by decide +kernel
theorem dX1_compareInList_52 : decode cX1_compareInList 52 = .ok (.aload_n 1, 1) := by decide +kernel
theorem dX1_compareInList_53 : decode cX1_compareInList 53 = .ok (.getfield 47, 3) := by decide +kernel
theorem dX1_compareInList_56 : decode cX1_compareInList 56 = .ok (.if_icmp .eq 16, 3) := by decide +kernel
theorem dX1_compareInList_59 : decode cX1_compareInList 59 = .ok (.aload_n 0, 1) := by decide +kernel
theorem dX1_compareInList_60 : decode cX1_compareInList 60 = .ok (.getfield 47, 3) := by decide +kernel
theorem dX1_compareInList_63 : decode cX1_compareInList 63 = .ok (.ifCond .eq 7, 3) := by decide +kernel
theorem dX1_compareInList_66 : decode cX1_compareInList 66 = .ok (.iconst 1, 1) := by decide +kernel
theorem dX1_compareInList_67 : decode cX1_compareInList 67 = .ok (.goto 4, 3) := by decide +kernel
theorem dX1_compareInList_70 : decode cX1_compareInList 70 = .ok (.iconst (-1), 1) := by decide +kernel
theorem dX1_compareInList_71 : decode cX1_compareInList 71 = .ok (.istore_n 2, 1) := by decide +kernel
theorem dX1_compareInList_72 : decode cX1_compareInList 72 = .ok (.iload_n 2, 1) := by decide +kernel
theorem dX1_compareInList_73 : decode cX1_compareInList 73 = .ok (.ireturn, 1) := by decide +kernel
theorem dX1_isVictimBefore_0 : decode cX1_isVictimBefore 0 = .ok (.aload_n 0, 1) := by decide +kernel
theorem dX1_isVictimBefore_1 : decode cX1_isVictimBefore 1 = .ok (.getfield 60, 3) := by decide +kernel
theorem dX1_isVictimBefore_4 : decode cX1_isVictimBefore 4 = .ok (.aload_n 1, 1) := by decide +kernel
theorem dX1_isVictimBefore_5 : decode cX1_isVictimBefore 5 = .ok (.getfield 60, 3) := by decide +kernel
theorem dX1_isVictimBefore_8 : decode cX1_isVictimBefore 8 = .ok (.if_icmp .eq 20, 3) := by decide +kernel
theorem dX1_isVictimBefore_11 : decode cX1_isVictimBefore 11 = .ok (.aload_n 0, 1) := by decide +kernel
theorem dX1_isVictimBefore_12 : decode cX1_isVictimBefore 12 = .ok (.getfield 60, 3) := by decide +kernel
theorem dX1_isVictimBefore_15 : decode cX1_isVictimBefore 15 = .ok (.aload_n 1, 1) := by decide +kernel
theorem dX1_isVictimBefore_16 : decode cX1_isVictimBefore 16 = .ok (.getfield 60, 3) := by decide +kernel
theorem dX1_isVictimBefore_19 : decode cX1_isVictimBefore 19 = .ok (.if_icmp .ge 7, 3) := by decide +kernel
theorem dX1_isVictimBefore_22 : decode cX1_isVictimBefore 22 = .ok (.iconst 1, 1) := by decide +kernel
theorem dX1_isVictimBefore_23 : decode cX1_isVictimBefore 23 = .ok (.goto 4, 3) := by decide +kernel
theorem dX1_isVictimBefore_26 : decode cX1_isVictimBefore 26 = .ok (.iconst 0, 1) := by decide +kernel
theorem dX1_isVictimBefore_27 : decode cX1_isVictimBefore 27 = .ok (.ireturn, 1) := by decide +kernel
theorem dX1_isVictimBefore_28 : decode cX1_isVictimBefore 28 = .ok (.aload_n 0, 1) := by decide +kernel
theorem dX1_isVictimBefore_29 : decode cX1_isVictimBefore 29 = .ok (.getfield 51, 3) := by decide +kernel
theorem dX1_isVictimBefore_32 : decode cX1_isVictimBefore 32 = .ok (.aload_n 1, 1) := by decide +kernel
theorem dX1_isVictimBefore_33 : decode cX1_isVictimBefore 33 = .ok (.getfield 51, 3) := by decide +kernel
theorem dX1_isVictimBefore_36 : decode cX1_isVictimBefore 36 = .ok (.if_icmp .eq 8, 3) := by decide +kernel
theorem dX1_isVictimBefore_39 : decode cX1_isVictimBefore 39 = .ok (.aload_n 1, 1) := by decide +kernel
theorem dX1_isVictimBefore_40 : decode cX1_isVictimBefore 40 = .ok (.getfield 51, 3) := by decide +kernel
theorem dX1_isVictimBefore_43 : decode cX1_isVictimBefore 43 = .ok (.ireturn, 1) := by decide +kernel
theorem dX1_isVictimBefore_44 : decode cX1_isVictimBefore 44 = .ok (.aload_n 0, 1) := by decide +kernel
theorem dX1_isVictimBefore_45 : decode cX1_isVictimBefore 45 = .ok (.iload_n 2, 1) := by decide +kernel
theorem dX1_isVictimBefore_46 : decode cX1_isVictimBefore 46 = .ok (.invokevirtual 72, 3) := by decide +kernel
theorem dX1_isVictimBefore_49 : decode cX1_isVictimBefore 49 = .ok (.aload_n 1, 1) := by decide +kernel
theorem dX1_isVictimBefore_50 : decode cX1_isVictimBefore 50 = .ok (.iload_n 2, 1) := by decide +kernel
theorem dX1_isVictimBefore_51 : decode cX1_isVictimBefore 51 = .ok (.invokevirtual 72, 3) := by decide +kernel
theorem dX1_isVictimBefore_54 : decode cX1_isVictimBefore 54 = .ok (.invokestatic 76, 3) := by decide +kernel
theorem dX1_isVictimBefore_57 : decode cX1_isVictimBefore 57 = .ok (.istore_n 3, 1) := by decide +kernel
theorem dX1_isVictimBefore_58 : decode cX1_isVictimBefore 58 = .ok (.iload_n 3, 1) := by decide +kernel
theorem dX1_isVictimBefore_59 : decode cX1_isVictimBefore 59 = .ok (.ifCond .eq 15, 3) := by decide +kernel
theorem dX1_isVictimBefore_62 : decode cX1_isVictimBefore 62 = .ok (.iload_n 3, 1) := by decide +kernel
theorem dX1_isVictimBefore_63 : decode cX1_isVictimBefore 63 = .ok (.ifCond .ge 7, 3) := by decide +kernel
theorem dX1_isVictimBefore_66 : decode cX1_isVictimBefore 66 = .ok (.iconst 1, 1) := by decide +kernel
theorem dX1_isVictimBefore_67 : decode cX1_isVictimBefore 67 = .ok (.goto 23, 3) := by decide +kernel
theorem dX1_isVictimBefore_70 : decode cX1_isVictimBefore 70 = .ok (.iconst 0, 1) := by decide +kernel
theorem dX1_isVictimBefore_71 : decode cX1_isVictimBefore 71 = .ok (.goto 19, 3) := by decide +kernel
theorem dX1_isVictimBefore_74 : decode cX1_isVictimBefore 74 = .ok (.aload_n 0, 1) := by decide +kernel
theorem dX1_isVictimBefore_75 : decode cX1_isVictimBefore 75 = .ok (.getfield 43, 3) := by decide +kernel
theorem dX1_isVictimBefore_78 : decode cX1_isVictimBefore 78 = .ok (.aload_n 1, 1) := by decide +kernel
theorem dX1_isVictimBefore_79 : decode cX1_isVictimBefore 79 = .ok (.getfield 43, 3) := by decide +kernel
theorem dX1_isVictimBefore_82 : decode cX1_isVictimBefore 82 = .ok (.if_icmp .ge 7, 3) := by decide +kernel
theorem dX1_isVictimBefore_85 : decode cX1_isVictimBefore 85 = .ok (.iconst 1, 1) := by decide +kernel
theorem dX1_isVictimBefore_86 : decode cX1_isVictimBefore 86 = .ok (.goto 4, 3) := by decide +kernel
theorem dX1_isVictimBefore_89 : decode cX1_isVictimBefore 89 = .ok (.iconst 0, 1) := by decide +kernel
theorem dX1_isVictimBefore_90 : decode cX1_isVictimBefore 90 = .ok (.ireturn, 1) := by decide +kernel
theorem dX1_weight_0 : decode cX1_weight 0 = .ok (.iload_n 1, 1) := by decide +kernel
theorem dX1_weight_1 : decode cX1_weight 1 = .ok (.ifCond .ne 8, 3) := by decide +kernel
theorem dX1_weight_4 : decode cX1_weight 4 = .ok (.aload_n 0, 1) := by decide +kernel
theorem dX1_weight_5 : decode cX1_weight 5 = .ok (.getfield 40, 3) := by decide +kernel
theorem dX1_weight_8 : decode cX1_weight 8 = .ok (.lreturn, 1) := by decide +kernel
theorem dX1_weight_9 : decode cX1_weight 9 = .ok (.iload_n 1, 1) := by decide +kernel
theorem dX1_weight_10 : decode cX1_weight 10 = .ok (.iconst 1, 1) := by decide +kernel
theorem dX1_weight_11 : decode cX1_weight 11 = .ok (.if_icmp .ne 8, 3) := by decide +kernel
theorem dX1_weight_14 : decode cX1_weight 14 = .ok (.aload_n 0, 1) := by decide +kernel
theorem dX1_weight_15 : decode cX1_weight 15 = .ok (.getfield 37, 3) := by decide +kernel
theorem dX1_weight_18 : decode cX1_weight 18 = .ok (.lreturn, 1) := by decide +kernel
theorem dX1_weight_19 : decode cX1_weight 19 = .ok (.iload_n 1, 1) := by decide +kernel
theorem dX1_weight_20 : decode cX1_weight 20 = .ok (.iconst 2, 1) := by decide +kernel
theorem dX1_weight_21 : decode cX1_weight 21 = .ok (.if_icmp .ne 25, 3) := by decide +kernel
theorem dX1_weight_24 : decode cX1_weight 24 = .ok (.aload_n 0, 1) := by decide +kernel
theorem dX1_weight_25 : decode cX1_weight 25 = .ok (.getfield 33, 3) := by decide +kernel
theorem dX1_weight_28 : decode cX1_weight 28 = .ok (.ldc2_w 81, 3) := by decide +kernel
theorem dX1_weight_31 : decode cX1_weight 31 = .ok (.lcmp, 1) := by decide +kernel
theorem dX1_weight_32 : decode cX1_weight 32 = .ok (.ifCond .ne 9, 3) := by decide +kernel
theorem dX1_weight_35 : decode cX1_weight 35 = .ok (.ldc2_w 83, 3) := by decide +kernel
theorem dX1_weight_38 : decode cX1_weight 38 = .ok (.goto 7, 3) := by decide +kernel
theorem dX1_weight_41 : decode cX1_weight 41 = .ok (.aload_n 0, 1) := by decide +kernel
theorem dX1_weight_42 : decode cX1_weight 42 = .ok (.getfield 33, 3) := by decide +kernel
theorem dX1_weight_45 : decode cX1_weight 45 = .ok (.lreturn, 1) := by decide +kernel
theorem dX1_weight_46 : decode cX1_weight 46 = .ok (.aload_n 0, 1) := by decide +kernel
theorem dX1_weight_47 : decode cX1_weight 47 = .ok (.getfield 14, 3) := by decide +kernel
theorem dX1_weight_50 : decode cX1_weight 50 = .ok (.getfield 85, 3) := by decide +kernel
theorem dX1_weight_53 : decode cX1_weight 53 = .ok (.aload_n 0, 1) := by decide +kernel
theorem dX1_weight_54 : decode cX1_weight 54 = .ok (.getfield 20, 3) := by decide +kernel
theorem dX1_weight_57 : decode cX1_weight 57 = .ok (.getfield 85, 3) := by decide +kernel
theorem dX1_weight_60 : decode cX1_weight 60 = .ok (.iadd, 1) := by decide +kernel
theorem dX1_weight_61 : decode cX1_weight 61 = .ok (.ineg, 1) := by decide +kernel
theorem dX1_weight_62 : decode cX1_weight 62 = .ok (.i2l, 1) := by decide +kernel
theorem dX1_weight_63 : decode cX1_weight 63 = .ok (.lreturn, 1) := by decide +kernel
theorem dX1_isSentBefore_0 : decode cX1_isSentBefore 0 = .ok (.aload_n 0, 1) := by decide +kernel
theorem dX1_isSentBefore_1 : decode cX1_isSentBefore 1 = .ok (.getfield 26, 3) := by decide +kernel
theorem dX1_isSentBefore_4 : decode cX1_isSentBefore 4 = .ok (.getfield 85, 3) := by decide +kernel
theorem dX1_isSentBefore_7 : decode cX1_isSentBefore 7 = .ok (.aload_n 1, 1) := by decide +kernel
theorem dX1_isSentBefore_8 : decode cX1_isSentBefore 8 = .ok (.getfield 26, 3) := by decide +kernel
theorem dX1_isSentBefore_11 : decode cX1_isSentBefore 11 = .ok (.getfield 85, 3) := by decide +kernel
theorem dX1_isSentBefore_14 : decode cX1_isSentBefore 14 = .ok (.if_icmp .eq 26, 3) := by decide +kernel
theorem dX1_isSentBefore_17 : decode cX1_isSentBefore 17 = .ok (.aload_n 0, 1) := by decide +kernel
theorem dX1_isSentBefore_18 : decode cX1_isSentBefore 18 = .ok (.getfield 26, 3) := by decide +kernel
theorem dX1_isSentBefore_21 : decode cX1_isSentBefore 21 = .ok (.getfield 85, 3) := by decide +kernel
theorem dX1_isSentBefore_24 : decode cX1_isSentBefore 24 = .ok (.aload_n 1, 1) := by decide +kernel
theorem dX1_isSentBefore_25 : decode cX1_isSentBefore 25 = .ok (.getfield 26, 3) := by decide +kernel
theorem dX1_isSentBefore_28 : decode cX1_isSentBefore 28 = .ok (.getfield 85, 3) := by decide +kernel
theorem dX1_isSentBefore_31 : decode cX1_isSentBefore 31 = .ok (.if_icmp .le 7, 3) := by decide +kernel
theorem dX1_isSentBefore_34 : decode cX1_isSentBefore 34 = .ok (.iconst 1, 1) := by decide +kernel
theorem dX1_isSentBefore_35 : decode cX1_isSentBefore 35 = .ok (.goto 4, 3) := by decide +kernel
theorem dX1_isSentBefore_38 : decode cX1_isSentBefore 38 = .ok (.iconst 0, 1) := by decide +kernel
theorem dX1_isSentBefore_39 : decode cX1_isSentBefore 39 = .ok (.ireturn, 1) := by decide +kernel
theorem dX1_isSentBefore_40 : decode cX1_isSentBefore 40 = .ok (.aload_n 0, 1) := by decide +kernel
theorem dX1_isSentBefore_41 : decode cX1_isSentBefore 41 = .ok (.getfield 43, 3) := by decide +kernel
theorem dX1_isSentBefore_44 : decode cX1_isSentBefore 44 = .ok (.aload_n 1, 1) := by decide +kernel
theorem dX1_isSentBefore_45 : decode cX1_isSentBefore 45 = .ok (.getfield 43, 3) := by decide +kernel
theorem dX1_isSentBefore_48 : decode cX1_isSentBefore 48 = .ok (.if_icmp .ge 7, 3) := by decide +kernel
theorem dX1_isSentBefore_51 : decode cX1_isSentBefore 51 = .ok (.iconst 1, 1) := by decide +kernel
theorem dX1_isSentBefore_52 : decode cX1_isSentBefore 52 = .ok (.goto 4, 3) := by decide +kernel
theorem dX1_isSentBefore_55 : decode cX1_isSentBefore 55 = .ok (.iconst 0, 1) := by decide +kernel
theorem dX1_isSentBefore_56 : decode cX1_isSentBefore 56 = .ok (.ireturn, 1) := by decide +kernel
theorem dX1_guardsAgainst_0 : decode cX1_guardsAgainst 0 = .ok (.aload_n 0, 1) := by decide +kernel
theorem dX1_guardsAgainst_1 : decode cX1_guardsAgainst 1 = .ok (.getfield 51, 3) := by decide +kernel
theorem dX1_guardsAgainst_4 : decode cX1_guardsAgainst 4 = .ok (.ifCond .eq 63, 3) := by decide +kernel
theorem dX1_guardsAgainst_7 : decode cX1_guardsAgainst 7 = .ok (.aload_n 0, 1) := by decide +kernel
theorem dX1_guardsAgainst_8 : decode cX1_guardsAgainst 8 = .ok (.getfield 14, 3) := by decide +kernel
theorem dX1_guardsAgainst_11 : decode cX1_guardsAgainst 11 = .ok (.aload_n 1, 1) := by decide +kernel
theorem dX1_guardsAgainst_12 : decode cX1_guardsAgainst 12 = .ok (.getfield 14, 3) := by decide +kernel
theorem dX1_guardsAgainst_15 : decode cX1_guardsAgainst 15 = .ok (.invokevirtual 88, 3) := by decide +kernel
theorem dX1_guardsAgainst_18 : decode cX1_guardsAgainst 18 = .ok (.ifCond .eq 49, 3) := by decide +kernel
theorem dX1_guardsAgainst_21 : decode cX1_guardsAgainst 21 = .ok (.aload_n 0, 1) := by decide +kernel
theorem dX1_guardsAgainst_22 : decode cX1_guardsAgainst 22 = .ok (.getfield 23, 3) := by decide +kernel
theorem dX1_guardsAgainst_25 : decode cX1_guardsAgainst 25 = .ok (.aload_n 1, 1) := by decide +kernel
theorem dX1_guardsAgainst_26 : decode cX1_guardsAgainst 26 = .ok (.getfield 23, 3) := by decide +kernel
theorem dX1_guardsAgainst_29 : decode cX1_guardsAgainst 29 = .ok (.invokevirtual 92, 3) := by decide +kernel
theorem dX1_guardsAgainst_32 : decode cX1_guardsAgainst 32 = .ok (.ifCond .ne 17, 3) := by decide +kernel
theorem dX1_guardsAgainst_35 : decode cX1_guardsAgainst 35 = .ok (.aload_n 1, 1) := by decide +kernel
theorem dX1_guardsAgainst_36 : decode cX1_guardsAgainst 36 = .ok (.getfield 23, 3) := by decide +kernel
theorem dX1_guardsAgainst_39 : decode cX1_guardsAgainst 39 = .ok (.aload_n 0, 1) := by decide +kernel
theorem dX1_guardsAgainst_40 : decode cX1_guardsAgainst 40 = .ok (.getfield 23, 3) := by decide +kernel
theorem dX1_guardsAgainst_43 : decode cX1_guardsAgainst 43 = .ok (.invokevirtual 92, 3) := by decide +kernel
theorem dX1_guardsAgainst_46 : decode cX1_guardsAgainst 46 = .ok (.ifCond .eq 21, 3) := by decide +kernel
theorem dX1_guardsAgainst_49 : decode cX1_guardsAgainst 49 = .ok (.aload_n 1, 1) := by decide +kernel
theorem dX1_guardsAgainst_50 : decode cX1_guardsAgainst 50 = .ok (.getfield 26, 3) := by decide +kernel
theorem dX1_guardsAgainst_53 : decode cX1_guardsAgainst 53 = .ok (.aload_n 0, 1) := by decide +kernel
theorem dX1_guardsAgainst_54 : decode cX1_guardsAgainst 54 = .ok (.getfield 26, 3) := by decide +kernel
theorem dX1_guardsAgainst_57 : decode cX1_guardsAgainst 57 = .ok (.invokevirtual 95, 3) := by decide +kernel
theorem dX1_guardsAgainst_60 : decode cX1_guardsAgainst 60 = .ok (.ifCond .eq 7, 3) := by decide +kernel
theorem dX1_guardsAgainst_63 : decode cX1_guardsAgainst 63 = .ok (.iconst 1, 1) := by decide +kernel
theorem dX1_guardsAgainst_64 : decode cX1_guardsAgainst 64 = .ok (.goto 4, 3) := by decide +kernel
theorem dX1_guardsAgainst_67 : decode cX1_guardsAgainst 67 = .ok (.iconst 0, 1) := by decide +kernel
theorem dX1_guardsAgainst_68 : decode cX1_guardsAgainst 68 = .ok (.ireturn, 1) := by decide +kernel
theorem dX1_mix_0 : decode cX1_mix 0 = .ok (.aload_n 0, 1) := by decide +kernel
theorem dX1_mix_1 : decode cX1_mix 1 = .ok (.getfield 26, 3) := by decide +kernel
theorem dX1_mix_4 : decode cX1_mix 4 = .ok (.aload_n 0, 1) := by decide +kernel
theorem dX1_mix_5 : decode cX1_mix 5 = .ok (.getfield 23, 3) := by decide +kernel
theorem dX1_mix_8 : decode cX1_mix 8 = .ok (.aload_n 0, 1) := by decide +kernel
theorem dX1_mix_9 : decode cX1_mix 9 = .ok (.getfield 20, 3) := by decide +kernel
theorem dX1_mix_12 : decode cX1_mix 12 = .ok (.aload_n 0, 1) := by decide +kernel
theorem dX1_mix_13 : decode cX1_mix 13 = .ok (.getfield 14, 3) := by decide +kernel
theorem dX1_mix_16 : decode cX1_mix 16 = .ok (.lload_n 1, 1) := by decide +kernel
theorem dX1_mix_17 : decode cX1_mix 17 = .ok (.invokevirtual 98, 3) := by decide +kernel
theorem dX1_mix_20 : decode cX1_mix 20 = .ok (.invokevirtual 98, 3) := by decide +kernel
theorem dX1_mix_23 : decode cX1_mix 23 = .ok (.invokevirtual 98, 3) := by decide +kernel
theorem dX1_mix_26 : decode cX1_mix 26 = .ok (.invokevirtual 98, 3) := by decide +kernel
theorem dX1_mix_29 : decode cX1_mix 29 = .ok (.lstore_n 3, 1) := by decide +kernel
theorem dX1_mix_30 : decode cX1_mix 30 = .ok (.ldc2_w 102, 3) := by decide +kernel
theorem dX1_mix_33 : decode cX1_mix 33 = .ok (.lload_n 3, 1) := by decide +kernel
theorem dX1_mix_34 : decode cX1_mix 34 = .ok (.lmul, 1) := by decide +kernel
theorem dX1_mix_35 : decode cX1_mix 35 = .ok (.aload_n 0, 1) := by decide +kernel
theorem dX1_mix_36 : decode cX1_mix 36 = .ok (.getfield 33, 3) := by decide +kernel
theorem dX1_mix_39 : decode cX1_mix 39 = .ok (.ladd, 1) := by decide +kernel
theorem dX1_mix_40 : decode cX1_mix 40 = .ok (.lstore_n 3, 1) := by decide +kernel
theorem dX1_mix_41 : decode cX1_mix 41 = .ok (.ldc2_w 102, 3) := by decide +kernel
theorem dX1_mix_44 : decode cX1_mix 44 = .ok (.lload_n 3, 1) := by decide +kernel
theorem dX1_mix_45 : decode cX1_mix 45 = .ok (.lmul, 1) := by decide +kernel
theorem dX1_mix_46 : decode cX1_mix 46 = .ok (.aload_n 0, 1) := by decide +kernel
theorem dX1_mix_47 : decode cX1_mix 47 = .ok (.getfield 37, 3) := by decide +kernel
theorem dX1_mix_50 : decode cX1_mix 50 = .ok (.ladd, 1) := by decide +kernel
theorem dX1_mix_51 : decode cX1_mix 51 = .ok (.lstore_n 3, 1) := by decide +kernel
theorem dX1_mix_52 : decode cX1_mix 52 = .ok (.ldc2_w 102, 3) := by decide +kernel
theorem dX1_mix_55 : decode cX1_mix 55 = .ok (.lload_n 3, 1) := by decide +kernel
theorem dX1_mix_56 : decode cX1_mix 56 = .ok (.lmul, 1) := by decide +kernel
theorem dX1_mix_57 : decode cX1_mix 57 = .ok (.aload_n 0, 1) := by decide +kernel
theorem dX1_mix_58 : decode cX1_mix 58 = .ok (.getfield 40, 3) := by decide +kernel
theorem dX1_mix_61 : decode cX1_mix 61 = .ok (.ladd, 1) := by decide +kernel
theorem dX1_mix_62 : decode cX1_mix 62 = .ok (.lstore_n 3, 1) := by decide +kernel
theorem dX1_mix_63 : decode cX1_mix 63 = .ok (.ldc2_w 102, 3) := by decide +kernel
theorem dX1_mix_66 : decode cX1_mix 66 = .ok (.lload_n 3, 1) := by decide +kernel
theorem dX1_mix_67 : decode cX1_mix 67 = .ok (.lmul, 1) := by decide +kernel
theorem dX1_mix_68 : decode cX1_mix 68 = .ok (.aload_n 0, 1) := by decide +kernel
theorem dX1_mix_69 : decode cX1_mix 69 = .ok (.getfield 43, 3) := by decide +kernel
theorem dX1_mix_72 : decode cX1_mix 72 = .ok (.i2l, 1) := by decide +kernel
theorem dX1_mix_73 : decode cX1_mix 73 = .ok (.ladd, 1) := by decide +kernel
theorem dX1_mix_74 : decode cX1_mix 74 = .ok (.lreturn, 1) := by decide +kernel
theorem dX2_read_0 : decode cX2_read 0 = .ok (.aload_n 0, 1) := by decide +kernel
theorem dX2_read_1 : decode cX2_read 1 = .ok (.getfield 9, 3) := by decide +kernel
theorem dX2_read_4 : decode cX2_read 4 = .ok (.bipush 20, 2) := by decide +kernel
theorem dX2_read_6 : decode cX2_read 6 = .ok (.if_icmp .ne 10, 3) := by decide +kernel
theorem dX2_read_9 : decode cX2_read 9 = .ok (.aload_n 0, 1) := by decide +kernel
theorem dX2_read_10 : decode cX2_read 10 = .ok (.invokestatic 17, 3) := by decide +kernel
theorem dX2_read_13 : decode cX2_read 13 = .ok (.ifCond .ne 7, 3) := by decide +kernel
theorem dX2_read_16 : decode cX2_read 16 = .ok (.ldc2_w 21, 3) := by decide +kernel
theorem dX2_read_19 : decode cX2_read 19 = .ok (.lreturn, 1) := by decide +kernel
theorem dX2_read_20 : decode cX2_read 20 = .ok (.aload_n 0, 1) := by decide +kernel
theorem dX2_read_21 : decode cX2_read 21 = .ok (.iconst 0, 1) := by decide +kernel
theorem dX2_read_22 : decode cX2_read 22 = .ok (.iconst 2, 1) := by decide +kernel
theorem dX2_read_23 : decode cX2_read 23 = .ok (.invokevirtual 23, 3) := by decide +kernel
theorem dX2_read_26 : decode cX2_read 26 = .ok (.istore_n 1, 1) := by decide +kernel
theorem dX2_read_27 : decode cX2_read 27 = .ok (.aload_n 0, 1) := by decide +kernel
theorem dX2_read_28 : decode cX2_read 28 = .ok (.invokestatic 27, 3) := by decide +kernel
theorem dX2_read_31 : decode cX2_read 31 = .ok (.istore_n 2, 1) := by decide +kernel
theorem dX2_read_32 : decode cX2_read 32 = .ok (.aload_n 0, 1) := by decide +kernel
theorem dX2_read_33 : decode cX2_read 33 = .ok (.bipush 7, 2) := by decide +kernel
theorem dX2_read_35 : decode cX2_read 35 = .ok (.bipush 11, 2) := by decide +kernel
theorem dX2_read_37 : decode cX2_read 37 = .ok (.invokevirtual 23, 3) := by decide +kernel
theorem dX2_read_40 : decode cX2_read 40 = .ok (.istore_n 3, 1) := by decide +kernel
theorem dX2_read_41 : decode cX2_read 41 = .ok (.iload_n 3, 1) := by decide +kernel
theorem dX2_read_42 : decode cX2_read 42 = .ok (.sipush 1970, 3) := by decide +kernel
theorem dX2_read_45 : decode cX2_read 45 = .ok (.if_icmp .lt 21, 3) := by decide +kernel
theorem dX2_read_48 : decode cX2_read 48 = .ok (.iload_n 2, 1) := by decide +kernel
theorem dX2_read_49 : decode cX2_read 49 = .ok (.ifCond .lt 17, 3) := by decide +kernel
theorem dX2_read_52 : decode cX2_read 52 = .ok (.iload_n 1, 1) := by decide +kernel
theorem dX2_read_53 : decode cX2_read 53 = .ok (.iconst 1, 1) := by decide +kernel
theorem dX2_read_54 : decode cX2_read 54 = .ok (.if_icmp .lt 12, 3) := by decide +kernel
theorem dX2_read_57 : decode cX2_read 57 = .ok (.iload_n 1, 1) := by decide +kernel
theorem dX2_read_58 : decode cX2_read 58 = .ok (.iload_n 3, 1) := by decide +kernel
theorem dX2_read_59 : decode cX2_read 59 = .ok (.iload_n 2, 1) := by decide +kernel
theorem dX2_read_60 : decode cX2_read 60 = .ok (.invokestatic 31, 3) := by decide +kernel
theorem dX2_read_63 : decode cX2_read 63 = .ok (.if_icmp .le 7, 3) := by decide +kernel
theorem dX2_read_66 : decode cX2_read 66 = .ok (.ldc2_w 21, 3) := by decide +kernel
theorem dX2_read_69 : decode cX2_read 69 = .ok (.lreturn, 1) := by decide +kernel
theorem dX2_read_70 : decode cX2_read 70 = .ok (.aload_n 0, 1) := by decide +kernel
theorem dX2_read_71 : decode cX2_read 71 = .ok (.bipush 12, 2) := by decide +kernel
theorem dX2_read_73 : decode cX2_read 73 = .ok (.bipush 14, 2) := by decide +kernel
theorem dX2_read_75 : decode cX2_read 75 = .ok (.invokevirtual 23, 3) := by decide +kernel
theorem dX2_read_78 : decode cX2_read 78 = .ok (.istore 4, 2) := by decide +kernel
theorem dX2_read_80 : decode cX2_read 80 = .ok (.aload_n 0, 1) := by decide +kernel
theorem dX2_read_81 : decode cX2_read 81 = .ok (.bipush 15, 2) := by decide +kernel
theorem dX2_read_83 : decode cX2_read 83 = .ok (.bipush 17, 2) := by decide +kernel
theorem dX2_read_85 : decode cX2_read 85 = .ok (.invokevirtual 23, 3) := by decide +kernel
theorem dX2_read_88 : decode cX2_read 88 = .ok (.istore 5, 2) := by decide +kernel
theorem dX2_read_90 : decode cX2_read 90 = .ok (.aload_n 0, 1) := by decide +kernel
theorem dX2_read_91 : decode cX2_read 91 = .ok (.bipush 18, 2) := by decide +kernel
theorem dX2_read_93 : decode cX2_read 93 = .ok (.bipush 20, 2) := by decide +kernel
theorem dX2_read_95 : decode cX2_read 95 = .ok (.invokevirtual 23, 3) := by decide +kernel
theorem dX2_read_98 : decode cX2_read 98 = .ok (.istore 6, 2) := by decide +kernel
theorem dX2_read_100 : decode cX2_read 100 = .ok (.iload 4, 2) := by decide +kernel
theorem dX2_read_102 : decode cX2_read 102 = .ok (.ifCond .lt 34, 3) := by decide +kernel
theorem dX2_read_105 : decode cX2_read 105 = .ok (.iload 4, 2) := by decide +kernel
theorem dX2_read_107 : decode cX2_read 107 = .ok (.bipush 23, 2) := by decide +kernel
theorem dX2_read_109 : decode cX2_read 109 = .ok (.if_icmp .gt 27, 3) := by decide +kernel
theorem dX2_read_112 : decode cX2_read 112 = .ok (.iload 5, 2) := by decide +kernel
theorem dX2_read_114 : decode cX2_read 114 = .ok (.ifCond .lt 22, 3) := by decide +kernel
theorem dX2_read_117 : decode cX2_read 117 = .ok (.iload 5, 2) := by decide +kernel
theorem dX2_read_119 : decode cX2_read 119 = .ok (.bipush 59, 2) := by decide +kernel
theorem dX2_read_121 : decode cX2_read 121 = .ok (.if_icmp .gt 15, 3) := by decide +kernel
theorem dX2_read_124 : decode cX2_read 124 = .ok (.iload 6, 2) := by decide +kernel
theorem dX2_read_126 : decode cX2_read 126 = .ok (.ifCond .lt 10, 3) := by decide +kernel
theorem dX2_read_129 : decode cX2_read 129 = .ok (.iload 6, 2) := by decide +kernel
theorem dX2_read_131 : decode cX2_read 131 = .ok (.bipush 59, 2) := by decide +kernel
theorem dX2_read_133 : decode cX2_read 133 = .ok (.if_icmp .le 7, 3) := by decide +kernel
theorem dX2_read_136 : decode cX2_read 136 = .ok (.ldc2_w 21, 3) := by decide +kernel
theorem dX2_read_139 : decode cX2_read 139 = .ok (.lreturn, 1) := by decide +kernel
theorem dX2_read_140 : decode cX2_read 140 = .ok (.iload_n 3, 1) := by decide +kernel
theorem dX2_read_141 : decode cX2_read 141 = .ok (.iload_n 2, 1) := by decide +kernel
theorem dX2_read_142 : decode cX2_read 142 = .ok (.invokestatic 34, 3) := by decide +kernel
theorem dX2_read_145 : decode cX2_read 145 = .ok (.iload_n 1, 1) := by decide +kernel
theorem dX2_read_146 : decode cX2_read 146 = .ok (.i2l, 1) := by decide +kernel
theorem dX2_read_147 : decode cX2_read 147 = .ok (.ladd, 1) := by decide +kernel
theorem dX2_read_148 : decode cX2_read 148 = .ok (.lconst 1, 1) := by decide +kernel
theorem dX2_read_149 : decode cX2_read 149 = .ok (.lsub, 1) := by decide +kernel
theorem dX2_read_150 : decode cX2_read 150 = .ok (.lstore 7, 2) := by decide +kernel
theorem dX2_read_152 : decode cX2_read 152 = .ok (.lload 7, 2) := by decide +kernel
theorem dX2_read_154 : decode cX2_read 154 = .ok (.ldc2_w 38, 3) := by decide +kernel
theorem dX2_read_157 : decode cX2_read 157 = .ok (.lmul, 1) := by decide +kernel
theorem dX2_read_158 : decode cX2_read 158 = .ok (.iload 4, 2) := by decide +kernel
theorem dX2_read_160 : decode cX2_read 160 = .ok (.i2l, 1) := by decide +kernel
theorem dX2_read_161 : decode cX2_read 161 = .ok (.ladd, 1) := by decide +kernel
theorem dX2_read_162 : decode cX2_read 162 = .ok (.ldc2_w 40, 3) := by decide +kernel
theorem dX2_read_165 : decode cX2_read 165 = .ok (.lmul, 1) := by decide +kernel
theorem dX2_read_166 : decode cX2_read 166 = .ok (.iload 5, 2) := by decide +kernel
theorem dX2_read_168 : decode cX2_read 168 = .ok (.i2l, 1) := by decide +kernel
theorem dX2_read_169 : decode cX2_read 169 = .ok (.ladd, 1) := by decide +kernel
theorem dX2_read_170 : decode cX2_read 170 = .ok (.ldc2_w 40, 3) := by decide +kernel
theorem dX2_read_173 : decode cX2_read 173 = .ok (.lmul, 1) := by decide +kernel
theorem dX2_read_174 : decode cX2_read 174 = .ok (.iload 6, 2) := by decide +kernel
theorem dX2_read_176 : decode cX2_read 176 = .ok (.i2l, 1) := by decide +kernel
theorem dX2_read_177 : decode cX2_read 177 = .ok (.ladd, 1) := by decide +kernel
theorem dX2_read_178 : decode cX2_read 178 = .ok (.lreturn, 1) := by decide +kernel
theorem dX2_hasSigns_0 : decode cX2_hasSigns 0 = .ok (.aload_n 0, 1) := by decide +kernel
theorem dX2_hasSigns_1 : decode cX2_hasSigns 1 = .ok (.iconst 2, 1) := by decide +kernel
theorem dX2_hasSigns_2 : decode cX2_hasSigns 2 = .ok (.invokevirtual 42, 3) := by decide +kernel
theorem dX2_hasSigns_5 : decode cX2_hasSigns 5 = .ok (.bipush 32, 2) := by decide +kernel
theorem dX2_hasSigns_7 : decode cX2_hasSigns 7 = .ok (.if_icmp .ne 51, 3) := by decide +kernel
theorem dX2_hasSigns_10 : decode cX2_hasSigns 10 = .ok (.aload_n 0, 1) := by decide +kernel
theorem dX2_hasSigns_11 : decode cX2_hasSigns 11 = .ok (.bipush 6, 2) := by decide +kernel
theorem dX2_hasSigns_13 : decode cX2_hasSigns 13 = .ok (.invokevirtual 42, 3) := by decide +kernel
theorem dX2_hasSigns_16 : decode cX2_hasSigns 16 = .ok (.bipush 32, 2) := by decide +kernel
theorem dX2_hasSigns_18 : decode cX2_hasSigns 18 = .ok (.if_icmp .ne 40, 3) := by decide +kernel
theorem dX2_hasSigns_21 : decode cX2_hasSigns 21 = .ok (.aload_n 0, 1) := by decide +kernel
theorem dX2_hasSigns_22 : decode cX2_hasSigns 22 = .ok (.bipush 11, 2) := by decide +kernel
theorem dX2_hasSigns_24 : decode cX2_hasSigns 24 = .ok (.invokevirtual 42, 3) := by decide +kernel
theorem dX2_hasSigns_27 : decode cX2_hasSigns 27 = .ok (.bipush 32, 2) := by decide +kernel
theorem dX2_hasSigns_29 : decode cX2_hasSigns 29 = .ok (.if_icmp .ne 29, 3) := by decide +kernel
theorem dX2_hasSigns_32 : decode cX2_hasSigns 32 = .ok (.aload_n 0, 1) := by decide +kernel
theorem dX2_hasSigns_33 : decode cX2_hasSigns 33 = .ok (.bipush 14, 2) := by decide +kernel
theorem dX2_hasSigns_35 : decode cX2_hasSigns 35 = .ok (.invokevirtual 42, 3) := by decide +kernel
theorem dX2_hasSigns_38 : decode cX2_hasSigns 38 = .ok (.bipush 58, 2) := by decide +kernel
theorem dX2_hasSigns_40 : decode cX2_hasSigns 40 = .ok (.if_icmp .ne 18, 3) := by decide +kernel
theorem dX2_hasSigns_43 : decode cX2_hasSigns 43 = .ok (.aload_n 0, 1) := by decide +kernel
theorem dX2_hasSigns_44 : decode cX2_hasSigns 44 = .ok (.bipush 17, 2) := by decide +kernel
theorem dX2_hasSigns_46 : decode cX2_hasSigns 46 = .ok (.invokevirtual 42, 3) := by decide +kernel
theorem dX2_hasSigns_49 : decode cX2_hasSigns 49 = .ok (.bipush 58, 2) := by decide +kernel
theorem dX2_hasSigns_51 : decode cX2_hasSigns 51 = .ok (.if_icmp .ne 7, 3) := by decide +kernel
theorem dX2_hasSigns_54 : decode cX2_hasSigns 54 = .ok (.iconst 1, 1) := by decide +kernel
theorem dX2_hasSigns_55 : decode cX2_hasSigns 55 = .ok (.goto 4, 3) := by decide +kernel
theorem dX2_hasSigns_58 : decode cX2_hasSigns 58 = .ok (.iconst 0, 1) := by decide +kernel
theorem dX2_hasSigns_59 : decode cX2_hasSigns 59 = .ok (.ireturn, 1) := by decide +kernel
theorem dX2_month_0 : decode cX2_month 0 = .ok (.iconst 0, 1) := by decide +kernel
theorem dX2_month_1 : decode cX2_month 1 = .ok (.istore_n 1, 1) := by decide +kernel
theorem dX2_month_2 : decode cX2_month 2 = .ok (.iload_n 1, 1) := by decide +kernel
theorem dX2_month_3 : decode cX2_month 3 = .ok (.bipush 12, 2) := by decide +kernel
theorem dX2_month_5 : decode cX2_month 5 = .ok (.if_icmp .ge 63, 3) := by decide +kernel
theorem dX2_month_8 : decode cX2_month 8 = .ok (.aload_n 0, 1) := by decide +kernel
theorem dX2_month_9 : decode cX2_month 9 = .ok (.iconst 3, 1) := by decide +kernel
theorem dX2_month_10 : decode cX2_month 10 = .ok (.invokevirtual 42, 3) := by decide +kernel
theorem dX2_month_13 : decode cX2_month 13 = .ok (.ldc 46, 2) := by decide +kernel
theorem dX2_month_15 : decode cX2_month 15 = .ok (.iconst 3, 1) := by decide +kernel
theorem dX2_month_16 : decode cX2_month 16 = .ok (.iload_n 1, 1) := by decide +kernel
theorem dX2_month_17 : decode cX2_month 17 = .ok (.imul, 1) := by decide +kernel
theorem dX2_month_18 : decode cX2_month 18 = .ok (.invokevirtual 48, 3) := by decide +kernel
theorem dX2_month_21 : decode cX2_month 21 = .ok (.if_icmp .ne 41, 3) := by decide +kernel
theorem dX2_month_24 : decode cX2_month 24 = .ok (.aload_n 0, 1) := by decide +kernel
theorem dX2_month_25 : decode cX2_month 25 = .ok (.iconst 4, 1) := by decide +kernel
theorem dX2_month_26 : decode cX2_month 26 = .ok (.invokevirtual 42, 3) := by decide +kernel
theorem dX2_month_29 : decode cX2_month 29 = .ok (.ldc 46, 2) := by decide +kernel
theorem dX2_month_31 : decode cX2_month 31 = .ok (.iconst 3, 1) := by decide +kernel
theorem dX2_month_32 : decode cX2_month 32 = .ok (.iload_n 1, 1) := by decide +kernel
theorem dX2_month_33 : decode cX2_month 33 = .ok (.imul, 1) := by decide +kernel
theorem dX2_month_34 : decode cX2_month 34 = .ok (.iconst 1, 1) := by decide +kernel
theorem dX2_month_35 : decode cX2_month 35 = .ok (.iadd, 1) := by decide +kernel
theorem dX2_month_36 : decode cX2_month 36 = .ok (.invokevirtual 48, 3) := by decide +kernel
theorem dX2_month_39 : decode cX2_month 39 = .ok (.if_icmp .ne 23, 3) := by decide +kernel
theorem dX2_month_42 : decode cX2_month 42 = .ok (.aload_n 0, 1) := by decide +kernel
theorem dX2_month_43 : decode cX2_month 43 = .ok (.iconst 5, 1) := by decide +kernel
theorem dX2_month_44 : decode cX2_month 44 = .ok (.invokevirtual 42, 3) := by decide +kernel
theorem dX2_month_47 : decode cX2_month 47 = .ok (.ldc 46, 2) := by decide +kernel
theorem dX2_month_49 : decode cX2_month 49 = .ok (.iconst 3, 1) := by decide +kernel
theorem dX2_month_50 : decode cX2_month 50 = .ok (.iload_n 1, 1) := by decide +kernel
theorem dX2_month_51 : decode cX2_month 51 = .ok (.imul, 1) := by decide +kernel
theorem dX2_month_52 : decode cX2_month 52 = .ok (.iconst 2, 1) := by decide +kernel
theorem dX2_month_53 : decode cX2_month 53 = .ok (.iadd, 1) := by decide +kernel
theorem dX2_month_54 : decode cX2_month 54 = .ok (.invokevirtual 48, 3) := by decide +kernel
theorem dX2_month_57 : decode cX2_month 57 = .ok (.if_icmp .ne 5, 3) := by decide +kernel
theorem dX2_month_60 : decode cX2_month 60 = .ok (.iload_n 1, 1) := by decide +kernel
theorem dX2_month_61 : decode cX2_month 61 = .ok (.ireturn, 1) := by decide +kernel
theorem dX2_month_62 : decode cX2_month 62 = .ok (.iinc 1 1, 3) := by decide +kernel
theorem dX2_month_65 : decode cX2_month 65 = .ok (.goto (-63), 3) := by decide +kernel
theorem dX2_month_68 : decode cX2_month 68 = .ok (.iconst (-1), 1) := by decide +kernel
theorem dX2_month_69 : decode cX2_month 69 = .ok (.ireturn, 1) := by decide +kernel
theorem dX2_isLeap_0 : decode cX2_isLeap 0 = .ok (.iload_n 0, 1) := by decide +kernel
theorem dX2_isLeap_1 : decode cX2_isLeap 1 = .ok (.iconst 4, 1) := by decide +kernel
theorem dX2_isLeap_2 : decode cX2_isLeap 2 = .ok (.irem, 1) := by decide +kernel
theorem dX2_isLeap_3 : decode cX2_isLeap 3 = .ok (.ifCond .ne 22, 3) := by decide +kernel
theorem dX2_isLeap_6 : decode cX2_isLeap 6 = .ok (.iload_n 0, 1) := by decide +kernel
theorem dX2_isLeap_7 : decode cX2_isLeap 7 = .ok (.bipush 100, 2) := by decide +kernel
theorem dX2_isLeap_9 : decode cX2_isLeap 9 = .ok (.irem, 1) := by decide +kernel
theorem dX2_isLeap_10 : decode cX2_isLeap 10 = .ok (.ifCond .ne 11, 3) := by decide +kernel
theorem dX2_isLeap_13 : decode cX2_isLeap 13 = .ok (.iload_n 0, 1) := by decide +kernel
theorem dX2_isLeap_14 : decode cX2_isLeap 14 = .ok (.sipush 400, 3) := by decide +kernel
theorem dX2_isLeap_17 : decode cX2_isLeap 17 = .ok (.irem, 1) := by decide +kernel
theorem dX2_isLeap_18 : decode cX2_isLeap 18 = .ok (.ifCond .ne 7, 3) := by decide +kernel
theorem dX2_isLeap_21 : decode cX2_isLeap 21 = .ok (.iconst 1, 1) := by decide +kernel
theorem dX2_isLeap_22 : decode cX2_isLeap 22 = .ok (.goto 4, 3) := by decide +kernel
theorem dX2_isLeap_25 : decode cX2_isLeap 25 = .ok (.iconst 0, 1) := by decide +kernel
theorem dX2_isLeap_26 : decode cX2_isLeap 26 = .ok (.ireturn, 1) := by decide +kernel
theorem dX2_daysOf_0 : decode cX2_daysOf 0 = .ok (.iload_n 1, 1) := by decide +kernel
theorem dX2_daysOf_1 : decode cX2_daysOf 1 = .ok (.ifCond .lt 9, 3) := by decide +kernel
theorem dX2_daysOf_4 : decode cX2_daysOf 4 = .ok (.iload_n 1, 1) := by decide +kernel
theorem dX2_daysOf_5 : decode cX2_daysOf 5 = .ok (.bipush 11, 2) := by decide +kernel
theorem dX2_daysOf_7 : decode cX2_daysOf 7 = .ok (.if_icmp .le 5, 3) := by decide +kernel
theorem dX2_daysOf_10 : decode cX2_daysOf 10 = .ok (.iconst 0, 1) := by decide +kernel
theorem dX2_daysOf_11 : decode cX2_daysOf 11 = .ok (.ireturn, 1) := by decide +kernel
theorem dX2_daysOf_12 : decode cX2_daysOf 12 = .ok (.getstatic 54, 3) := by decide +kernel
theorem dX2_daysOf_15 : decode cX2_daysOf 15 = .ok (.iload_n 1, 1) := by decide +kernel
theorem dX2_daysOf_16 : decode cX2_daysOf 16 = .ok (.iconst 1, 1) := by decide +kernel
theorem dX2_daysOf_17 : decode cX2_daysOf 17 = .ok (.iadd, 1) := by decide +kernel
theorem dX2_daysOf_18 : decode cX2_daysOf 18 = .ok (.iaload, 1) := by decide +kernel
theorem dX2_daysOf_19 : decode cX2_daysOf 19 = .ok (.getstatic 54, 3) := by decide +kernel
theorem dX2_daysOf_22 : decode cX2_daysOf 22 = .ok (.iload_n 1, 1) := by decide +kernel
theorem dX2_daysOf_23 : decode cX2_daysOf 23 = .ok (.iaload, 1) := by decide +kernel
theorem dX2_daysOf_24 : decode cX2_daysOf 24 = .ok (.isub, 1) := by decide +kernel
theorem dX2_daysOf_25 : decode cX2_daysOf 25 = .ok (.istore_n 2, 1) := by decide +kernel
theorem dX2_daysOf_26 : decode cX2_daysOf 26 = .ok (.iload_n 1, 1) := by decide +kernel
theorem dX2_daysOf_27 : decode cX2_daysOf 27 = .ok (.iconst 1, 1) := by decide +kernel
theorem dX2_daysOf_28 : decode cX2_daysOf 28 = .ok (.if_icmp .ne 16, 3) := by decide +kernel
theorem dX2_daysOf_31 : decode cX2_daysOf 31 = .ok (.iload_n 0, 1) := by decide +kernel
theorem dX2_daysOf_32 : decode cX2_daysOf 32 = .ok (.invokestatic 58, 3) := by decide +kernel
theorem dX2_daysOf_35 : decode cX2_daysOf 35 = .ok (.ifCond .eq 9, 3) := by decide +kernel
theorem dX2_daysOf_38 : decode cX2_daysOf 38 = .ok (.iload_n 2, 1) := by decide +kernel
theorem dX2_daysOf_39 : decode cX2_daysOf 39 = .ok (.iconst 1, 1) := by decide +kernel
theorem dX2_daysOf_40 : decode cX2_daysOf 40 = .ok (.iadd, 1) := by decide +kernel
theorem dX2_daysOf_41 : decode cX2_daysOf 41 = .ok (.goto 4, 3) := by decide +kernel
theorem dX2_daysOf_44 : decode cX2_daysOf 44 = .ok (.iload_n 2, 1) := by decide +kernel
theorem dX2_daysOf_45 : decode cX2_daysOf 45 = .ok (.ireturn, 1) := by decide +kernel
theorem dX2_leapDaysBefore_0 : decode cX2_leapDaysBefore 0 = .ok (.iload_n 0, 1) := by decide +kernel
theorem dX2_leapDaysBefore_1 : decode cX2_leapDaysBefore 1 = .ok (.iconst 1, 1) := by decide +kernel
theorem dX2_leapDaysBefore_2 : decode cX2_leapDaysBefore 2 = .ok (.isub, 1) := by decide +kernel
theorem dX2_leapDaysBefore_3 : decode cX2_leapDaysBefore 3 = .ok (.istore_n 1, 1) := by decide +kernel
theorem dX2_leapDaysBefore_4 : decode cX2_leapDaysBefore 4 = .ok (.iload_n 1, 1) := by decide +kernel
theorem dX2_leapDaysBefore_5 : decode cX2_leapDaysBefore 5 = .ok (.iconst 4, 1) := by decide +kernel
theorem dX2_leapDaysBefore_6 : decode cX2_leapDaysBefore 6 = .ok (.idiv, 1) := by decide +kernel
theorem dX2_leapDaysBefore_7 : decode cX2_leapDaysBefore 7 = .ok (.iload_n 1, 1) := by decide +kernel
theorem dX2_leapDaysBefore_8 : decode cX2_leapDaysBefore 8 = .ok (.bipush 100, 2) := by decide +kernel
theorem dX2_leapDaysBefore_10 : decode cX2_leapDaysBefore 10 = .ok (.idiv, 1) := by decide +kernel
theorem dX2_leapDaysBefore_11 : decode cX2_leapDaysBefore 11 = .ok (.isub, 1) := by decide +kernel
theorem dX2_leapDaysBefore_12 : decode cX2_leapDaysBefore 12 = .ok (.iload_n 1, 1) := by decide +kernel
theorem dX2_leapDaysBefore_13 : decode cX2_leapDaysBefore 13 = .ok (.sipush 400, 3) := by decide +kernel
theorem dX2_leapDaysBefore_16 : decode cX2_leapDaysBefore 16 = .ok (.idiv, 1) := by decide +kernel
theorem dX2_leapDaysBefore_17 : decode cX2_leapDaysBefore 17 = .ok (.iadd, 1) := by decide +kernel
theorem dX2_leapDaysBefore_18 : decode cX2_leapDaysBefore 18 = .ok (.ireturn, 1) := by decide +kernel
theorem dX2_daysBefore_0 : decode cX2_daysBefore 0 = .ok (.iload_n 1, 1) := by decide +kernel
theorem dX2_daysBefore_1 : decode cX2_daysBefore 1 = .ok (.ifCond .lt 9, 3) := by decide +kernel
theorem dX2_daysBefore_4 : decode cX2_daysBefore 4 = .ok (.iload_n 1, 1) := by decide +kernel
theorem dX2_daysBefore_5 : decode cX2_daysBefore 5 = .ok (.bipush 11, 2) := by decide +kernel
theorem dX2_daysBefore_7 : decode cX2_daysBefore 7 = .ok (.if_icmp .le 5, 3) := by decide +kernel
theorem dX2_daysBefore_10 : decode cX2_daysBefore 10 = .ok (.lconst 0, 1) := by decide +kernel
theorem dX2_daysBefore_11 : decode cX2_daysBefore 11 = .ok (.lreturn, 1) := by decide +kernel
theorem dX2_daysBefore_12 : decode cX2_daysBefore 12 = .ok (.iload_n 0, 1) := by decide +kernel
theorem dX2_daysBefore_13 : decode cX2_daysBefore 13 = .ok (.invokestatic 62, 3) := by decide +kernel
theorem dX2_daysBefore_16 : decode cX2_daysBefore 16 = .ok (.sipush 1970, 3) := by decide +kernel
theorem dX2_daysBefore_19 : decode cX2_daysBefore 19 = .ok (.invokestatic 62, 3) := by decide +kernel
theorem dX2_daysBefore_22 : decode cX2_daysBefore 22 = .ok (.isub, 1) := by decide +kernel
theorem dX2_daysBefore_23 : decode cX2_daysBefore 23 = .ok (.iload_n 1, 1) := by decide +kernel
theorem dX2_daysBefore_24 : decode cX2_daysBefore 24 = .ok (.iconst 1, 1) := by decide +kernel
theorem dX2_daysBefore_25 : decode cX2_daysBefore 25 = .ok (.if_icmp .le 14, 3) := by decide +kernel
theorem dX2_daysBefore_28 : decode cX2_daysBefore 28 = .ok (.iload_n 0, 1) := by decide +kernel
theorem dX2_daysBefore_29 : decode cX2_daysBefore 29 = .ok (.invokestatic 58, 3) := by decide +kernel
theorem dX2_daysBefore_32 : decode cX2_daysBefore 32 = .ok (.ifCond .eq 7, 3) := by decide +kernel
theorem dX2_daysBefore_35 : decode cX2_daysBefore 35 = .ok (.iconst 1, 1) := by decide +kernel
theorem dX2_daysBefore_36 : decode cX2_daysBefore 36 = .ok (.goto 4, 3) := by decide +kernel
theorem dX2_daysBefore_39 : decode cX2_daysBefore 39 = .ok (.iconst 0, 1) := by decide +kernel
theorem dX2_daysBefore_40 : decode cX2_daysBefore 40 = .ok (.iadd, 1) := by decide +kernel
theorem dX2_daysBefore_41 : decode cX2_daysBefore 41 = .ok (.istore_n 2, 1) := by decide +kernel
theorem dX2_daysBefore_42 : decode cX2_daysBefore 42 = .ok (.sipush 365, 3) := by decide +kernel
theorem dX2_daysBefore_45 : decode cX2_daysBefore 45 = .ok (.iload_n 0, 1) := by decide +kernel
theorem dX2_daysBefore_46 : decode cX2_daysBefore 46 = .ok (.sipush 1970, 3) := by decide +kernel
theorem dX2_daysBefore_49 : decode cX2_daysBefore 49 = .ok (.isub, 1) := by decide +kernel
theorem dX2_daysBefore_50 : decode cX2_daysBefore 50 = .ok (.imul, 1) := by decide +kernel
theorem dX2_daysBefore_51 : decode cX2_daysBefore 51 = .ok (.iload_n 2, 1) := by decide +kernel
theorem dX2_daysBefore_52 : decode cX2_daysBefore 52 = .ok (.iadd, 1) := by decide +kernel
theorem dX2_daysBefore_53 : decode cX2_daysBefore 53 = .ok (.getstatic 54, 3) := by decide +kernel
theorem dX2_daysBefore_56 : decode cX2_daysBefore 56 = .ok (.iload_n 1, 1) := by decide +kernel
theorem dX2_daysBefore_57 : decode cX2_daysBefore 57 = .ok (.iaload, 1) := by decide +kernel
theorem dX2_daysBefore_58 : decode cX2_daysBefore 58 = .ok (.iadd, 1) := by decide +kernel
theorem dX2_daysBefore_59 : decode cX2_daysBefore 59 = .ok (.i2l, 1) := by decide +kernel
theorem dX2_daysBefore_60 : decode cX2_daysBefore 60 = .ok (.lreturn, 1) := by decide +kernel
theorem dX3_end_0 : decode cX3_end 0 = .ok (.iload_n 1, 1) := by decide +kernel
theorem dX3_end_1 : decode cX3_end 1 = .ok (.istore_n 2, 1) := by decide +kernel
theorem dX3_end_2 : decode cX3_end 2 = .ok (.iload_n 2, 1) := by decide +kernel
theorem dX3_end_3 : decode cX3_end 3 = .ok (.aload_n 0, 1) := by decide +kernel
theorem dX3_end_4 : decode cX3_end 4 = .ok (.getfield 9, 3) := by decide +kernel
theorem dX3_end_7 : decode cX3_end 7 = .ok (.if_icmp .ge 18, 3) := by decide +kernel
theorem dX3_end_10 : decode cX3_end 10 = .ok (.aload_n 0, 1) := by decide +kernel
theorem dX3_end_11 : decode cX3_end 11 = .ok (.iload_n 1, 1) := by decide +kernel
theorem dX3_end_12 : decode cX3_end 12 = .ok (.iload_n 2, 1) := by decide +kernel
theorem dX3_end_13 : decode cX3_end 13 = .ok (.invokestatic 15, 3) := by decide +kernel
theorem dX3_end_16 : decode cX3_end 16 = .ok (.ifCond .eq 9, 3) := by decide +kernel
theorem dX3_end_19 : decode cX3_end 19 = .ok (.iinc 2 1, 3) := by decide +kernel
theorem dX3_end_22 : decode cX3_end 22 = .ok (.goto (-20), 3) := by decide +kernel
theorem dX3_end_25 : decode cX3_end 25 = .ok (.iload_n 2, 1) := by decide +kernel
theorem dX3_end_26 : decode cX3_end 26 = .ok (.ireturn, 1) := by decide +kernel
theorem dX3_goesOn_0 : decode cX3_goesOn 0 = .ok (.aload_n 0, 1) := by decide +kernel
theorem dX3_goesOn_1 : decode cX3_goesOn 1 = .ok (.iload_n 2, 1) := by decide +kernel
theorem dX3_goesOn_2 : decode cX3_goesOn 2 = .ok (.invokevirtual 21, 3) := by decide +kernel
theorem dX3_goesOn_5 : decode cX3_goesOn 5 = .ok (.bipush 46, 2) := by decide +kernel
theorem dX3_goesOn_7 : decode cX3_goesOn 7 = .ok (.if_icmp .ne 34, 3) := by decide +kernel
theorem dX3_goesOn_10 : decode cX3_goesOn 10 = .ok (.iload_n 2, 1) := by decide +kernel
theorem dX3_goesOn_11 : decode cX3_goesOn 11 = .ok (.iload_n 1, 1) := by decide +kernel
theorem dX3_goesOn_12 : decode cX3_goesOn 12 = .ok (.if_icmp .le 27, 3) := by decide +kernel
theorem dX3_goesOn_15 : decode cX3_goesOn 15 = .ok (.aload_n 0, 1) := by decide +kernel
theorem dX3_goesOn_16 : decode cX3_goesOn 16 = .ok (.iload_n 2, 1) := by decide +kernel
theorem dX3_goesOn_17 : decode cX3_goesOn 17 = .ok (.iconst 1, 1) := by decide +kernel
theorem dX3_goesOn_18 : decode cX3_goesOn 18 = .ok (.isub, 1) := by decide +kernel
theorem dX3_goesOn_19 : decode cX3_goesOn 19 = .ok (.invokevirtual 21, 3) := by decide +kernel
theorem dX3_goesOn_22 : decode cX3_goesOn 22 = .ok (.bipush 46, 2) := by decide +kernel
theorem dX3_goesOn_24 : decode cX3_goesOn 24 = .ok (.if_icmp .eq 15, 3) := by decide +kernel
theorem dX3_goesOn_27 : decode cX3_goesOn 27 = .ok (.iload_n 2, 1) := by decide +kernel
theorem dX3_goesOn_28 : decode cX3_goesOn 28 = .ok (.iload_n 1, 1) := by decide +kernel
theorem dX3_goesOn_29 : decode cX3_goesOn 29 = .ok (.isub, 1) := by decide +kernel
theorem dX3_goesOn_30 : decode cX3_goesOn 30 = .ok (.bipush 29, 2) := by decide +kernel
theorem dX3_goesOn_32 : decode cX3_goesOn 32 = .ok (.if_icmp .ge 7, 3) := by decide +kernel
theorem dX3_goesOn_35 : decode cX3_goesOn 35 = .ok (.iconst 1, 1) := by decide +kernel
theorem dX3_goesOn_36 : decode cX3_goesOn 36 = .ok (.goto 4, 3) := by decide +kernel
theorem dX3_goesOn_39 : decode cX3_goesOn 39 = .ok (.iconst 0, 1) := by decide +kernel
theorem dX3_goesOn_40 : decode cX3_goesOn 40 = .ok (.ireturn, 1) := by decide +kernel
theorem dX3_goesOn_41 : decode cX3_goesOn 41 = .ok (.aload_n 0, 1) := by decide +kernel
theorem dX3_goesOn_42 : decode cX3_goesOn 42 = .ok (.iload_n 2, 1) := by decide +kernel
theorem dX3_goesOn_43 : decode cX3_goesOn 43 = .ok (.invokevirtual 21, 3) := by decide +kernel
theorem dX3_goesOn_46 : decode cX3_goesOn 46 = .ok (.invokestatic 25, 3) := by decide +kernel
theorem dX3_goesOn_49 : decode cX3_goesOn 49 = .ok (.ifCond .eq 15, 3) := by decide +kernel
theorem dX3_goesOn_52 : decode cX3_goesOn 52 = .ok (.iload_n 2, 1) := by decide +kernel
theorem dX3_goesOn_53 : decode cX3_goesOn 53 = .ok (.iload_n 1, 1) := by decide +kernel
theorem dX3_goesOn_54 : decode cX3_goesOn 54 = .ok (.isub, 1) := by decide +kernel
theorem dX3_goesOn_55 : decode cX3_goesOn 55 = .ok (.bipush 30, 2) := by decide +kernel
theorem dX3_goesOn_57 : decode cX3_goesOn 57 = .ok (.if_icmp .ge 7, 3) := by decide +kernel
theorem dX3_goesOn_60 : decode cX3_goesOn 60 = .ok (.iconst 1, 1) := by decide +kernel
theorem dX3_goesOn_61 : decode cX3_goesOn 61 = .ok (.goto 4, 3) := by decide +kernel
theorem dX3_goesOn_64 : decode cX3_goesOn 64 = .ok (.iconst 0, 1) := by decide +kernel
theorem dX3_goesOn_65 : decode cX3_goesOn 65 = .ok (.ireturn, 1) := by decide +kernel
theorem dX3_isOfLabel_0 : decode cX3_isOfLabel 0 = .ok (.iload_n 0, 1) := by decide +kernel
theorem dX3_isOfLabel_1 : decode cX3_isOfLabel 1 = .ok (.bipush 97, 2) := by decide +kernel
theorem dX3_isOfLabel_3 : decode cX3_isOfLabel 3 = .ok (.if_icmp .lt 9, 3) := by decide +kernel
theorem dX3_isOfLabel_6 : decode cX3_isOfLabel 6 = .ok (.iload_n 0, 1) := by decide +kernel
theorem dX3_isOfLabel_7 : decode cX3_isOfLabel 7 = .ok (.bipush 122, 2) := by decide +kernel
theorem dX3_isOfLabel_9 : decode cX3_isOfLabel 9 = .ok (.if_icmp .le 21, 3) := by decide +kernel
theorem dX3_isOfLabel_12 : decode cX3_isOfLabel 12 = .ok (.iload_n 0, 1) := by decide +kernel
theorem dX3_isOfLabel_13 : decode cX3_isOfLabel 13 = .ok (.bipush 48, 2) := by decide +kernel
theorem dX3_isOfLabel_15 : decode cX3_isOfLabel 15 = .ok (.if_icmp .lt 9, 3) := by decide +kernel
theorem dX3_isOfLabel_18 : decode cX3_isOfLabel 18 = .ok (.iload_n 0, 1) := by decide +kernel
theorem dX3_isOfLabel_19 : decode cX3_isOfLabel 19 = .ok (.bipush 57, 2) := by decide +kernel
theorem dX3_isOfLabel_21 : decode cX3_isOfLabel 21 = .ok (.if_icmp .le 9, 3) := by decide +kernel
theorem dX3_isOfLabel_24 : decode cX3_isOfLabel 24 = .ok (.iload_n 0, 1) := by decide +kernel
theorem dX3_isOfLabel_25 : decode cX3_isOfLabel 25 = .ok (.bipush 45, 2) := by decide +kernel
theorem dX3_isOfLabel_27 : decode cX3_isOfLabel 27 = .ok (.if_icmp .ne 7, 3) := by decide +kernel
theorem dX3_isOfLabel_30 : decode cX3_isOfLabel 30 = .ok (.iconst 1, 1) := by decide +kernel
theorem dX3_isOfLabel_31 : decode cX3_isOfLabel 31 = .ok (.goto 4, 3) := by decide +kernel
theorem dX3_isOfLabel_34 : decode cX3_isOfLabel 34 = .ok (.iconst 0, 1) := by decide +kernel
theorem dX3_isOfLabel_35 : decode cX3_isOfLabel 35 = .ok (.ireturn, 1) := by decide +kernel
theorem dX3_isWhole_0 : decode cX3_isWhole 0 = .ok (.iload_n 2, 1) := by decide +kernel
theorem dX3_isWhole_1 : decode cX3_isWhole 1 = .ok (.iload_n 1, 1) := by decide +kernel
theorem dX3_isWhole_2 : decode cX3_isWhole 2 = .ok (.if_icmp .le 19, 3) := by decide +kernel
theorem dX3_isWhole_5 : decode cX3_isWhole 5 = .ok (.aload_n 0, 1) := by decide +kernel
theorem dX3_isWhole_6 : decode cX3_isWhole 6 = .ok (.iload_n 2, 1) := by decide +kernel
theorem dX3_isWhole_7 : decode cX3_isWhole 7 = .ok (.iconst 1, 1) := by decide +kernel
theorem dX3_isWhole_8 : decode cX3_isWhole 8 = .ok (.isub, 1) := by decide +kernel
theorem dX3_isWhole_9 : decode cX3_isWhole 9 = .ok (.invokevirtual 21, 3) := by decide +kernel
theorem dX3_isWhole_12 : decode cX3_isWhole 12 = .ok (.bipush 46, 2) := by decide +kernel
theorem dX3_isWhole_14 : decode cX3_isWhole 14 = .ok (.if_icmp .eq 7, 3) := by decide +kernel
theorem dX3_isWhole_17 : decode cX3_isWhole 17 = .ok (.iconst 1, 1) := by decide +kernel
theorem dX3_isWhole_18 : decode cX3_isWhole 18 = .ok (.goto 4, 3) := by decide +kernel
theorem dX3_isWhole_21 : decode cX3_isWhole 21 = .ok (.iconst 0, 1) := by decide +kernel
theorem dX3_isWhole_22 : decode cX3_isWhole 22 = .ok (.ireturn, 1) := by decide +kernel
theorem dX3_isDomain_0 : decode cX3_isDomain 0 = .ok (.aload_n 0, 1) := by decide +kernel
theorem dX3_isDomain_1 : decode cX3_isDomain 1 = .ok (.iconst 0, 1) := by decide +kernel
theorem dX3_isDomain_2 : decode cX3_isDomain 2 = .ok (.invokestatic 29, 3) := by decide +kernel
theorem dX3_isDomain_5 : decode cX3_isDomain 5 = .ok (.istore_n 1, 1) := by decide +kernel
theorem dX3_isDomain_6 : decode cX3_isDomain 6 = .ok (.iload_n 1, 1) := by decide +kernel
theorem dX3_isDomain_7 : decode cX3_isDomain 7 = .ok (.aload_n 0, 1) := by decide +kernel
theorem dX3_isDomain_8 : decode cX3_isDomain 8 = .ok (.getfield 9, 3) := by decide +kernel
theorem dX3_isDomain_11 : decode cX3_isDomain 11 = .ok (.if_icmp .ne 16, 3) := by decide +kernel
theorem dX3_isDomain_14 : decode cX3_isDomain 14 = .ok (.aload_n 0, 1) := by decide +kernel
theorem dX3_isDomain_15 : decode cX3_isDomain 15 = .ok (.iconst 0, 1) := by decide +kernel
theorem dX3_isDomain_16 : decode cX3_isDomain 16 = .ok (.iload_n 1, 1) := by decide +kernel
theorem dX3_isDomain_17 : decode cX3_isDomain 17 = .ok (.invokestatic 33, 3) := by decide +kernel
theorem dX3_isDomain_20 : decode cX3_isDomain 20 = .ok (.ifCond .eq 7, 3) := by decide +kernel
theorem dX3_isDomain_23 : decode cX3_isDomain 23 = .ok (.iconst 1, 1) := by decide +kernel
theorem dX3_isDomain_24 : decode cX3_isDomain 24 = .ok (.goto 4, 3) := by decide +kernel
theorem dX3_isDomain_27 : decode cX3_isDomain 27 = .ok (.iconst 0, 1) := by decide +kernel
theorem dX3_isDomain_28 : decode cX3_isDomain 28 = .ok (.ireturn, 1) := by decide +kernel
theorem dX3_labelStart_0 : decode cX3_labelStart 0 = .ok (.iload_n 1, 1) := by decide +kernel
theorem dX3_labelStart_1 : decode cX3_labelStart 1 = .ok (.istore_n 2, 1) := by decide +kernel
theorem dX3_labelStart_2 : decode cX3_labelStart 2 = .ok (.iload_n 2, 1) := by decide +kernel
theorem dX3_labelStart_3 : decode cX3_labelStart 3 = .ok (.ifCond .le 21, 3) := by decide +kernel
theorem dX3_labelStart_6 : decode cX3_labelStart 6 = .ok (.aload_n 0, 1) := by decide +kernel
theorem dX3_labelStart_7 : decode cX3_labelStart 7 = .ok (.iload_n 2, 1) := by decide +kernel
theorem dX3_labelStart_8 : decode cX3_labelStart 8 = .ok (.iconst 1, 1) := by decide +kernel
theorem dX3_labelStart_9 : decode cX3_labelStart 9 = .ok (.isub, 1) := by decide +kernel
theorem dX3_labelStart_10 : decode cX3_labelStart 10 = .ok (.invokevirtual 21, 3) := by decide +kernel
theorem dX3_labelStart_13 : decode cX3_labelStart 13 = .ok (.bipush 46, 2) := by decide +kernel
theorem dX3_labelStart_15 : decode cX3_labelStart 15 = .ok (.if_icmp .eq 9, 3) := by decide +kernel
theorem dX3_labelStart_18 : decode cX3_labelStart 18 = .ok (.iinc 2 (-1), 3) := by decide +kernel
theorem dX3_labelStart_21 : decode cX3_labelStart 21 = .ok (.goto (-19), 3) := by decide +kernel
theorem dX3_labelStart_24 : decode cX3_labelStart 24 = .ok (.iload_n 2, 1) := by decide +kernel
theorem dX3_labelStart_25 : decode cX3_labelStart 25 = .ok (.ireturn, 1) := by decide +kernel
theorem dX3_compare_0 : decode cX3_compare 0 = .ok (.aload_n 0, 1) := by decide +kernel
theorem dX3_compare_1 : decode cX3_compare 1 = .ok (.getfield 9, 3) := by decide +kernel
theorem dX3_compare_4 : decode cX3_compare 4 = .ok (.istore_n 2, 1) := by decide +kernel
theorem dX3_compare_5 : decode cX3_compare 5 = .ok (.aload_n 1, 1) := by decide +kernel
theorem dX3_compare_6 : decode cX3_compare 6 = .ok (.getfield 9, 3) := by decide +kernel
theorem dX3_compare_9 : decode cX3_compare 9 = .ok (.istore_n 3, 1) := by decide +kernel
theorem dX3_compare_10 : decode cX3_compare 10 = .ok (.iconst 0, 1) := by decide +kernel
theorem dX3_compare_11 : decode cX3_compare 11 = .ok (.istore 4, 2) := by decide +kernel
theorem dX3_compare_13 : decode cX3_compare 13 = .ok (.iload 4, 2) := by decide +kernel
theorem dX3_compare_15 : decode cX3_compare 15 = .ok (.bipush 30, 2) := by decide +kernel
theorem dX3_compare_17 : decode cX3_compare 17 = .ok (.if_icmp .ge 62, 3) := by decide +kernel
theorem dX3_compare_20 : decode cX3_compare 20 = .ok (.iload_n 2, 1) := by decide +kernel
theorem dX3_compare_21 : decode cX3_compare 21 = .ok (.ifCond .le 58, 3) := by decide +kernel
theorem dX3_compare_24 : decode cX3_compare 24 = .ok (.iload_n 3, 1) := by decide +kernel
theorem dX3_compare_25 : decode cX3_compare 25 = .ok (.ifCond .le 54, 3) := by decide +kernel
theorem dX3_compare_28 : decode cX3_compare 28 = .ok (.aload_n 0, 1) := by decide +kernel
theorem dX3_compare_29 : decode cX3_compare 29 = .ok (.iload_n 2, 1) := by decide +kernel
theorem dX3_compare_30 : decode cX3_compare 30 = .ok (.invokestatic 36, 3) := by decide +kernel
theorem dX3_compare_33 : decode cX3_compare 33 = .ok (.istore 5, 2) := by decide +kernel
theorem dX3_compare_35 : decode cX3_compare 35 = .ok (.aload_n 1, 1) := by decide +kernel
theorem dX3_compare_36 : decode cX3_compare 36 = .ok (.iload_n 3, 1) := by decide +kernel
theorem dX3_compare_37 : decode cX3_compare 37 = .ok (.invokestatic 36, 3) := by decide +kernel
theorem dX3_compare_40 : decode cX3_compare 40 = .ok (.istore 6, 2) := by decide +kernel
theorem dX3_compare_42 : decode cX3_compare 42 = .ok (.aload_n 0, 1) := by decide +kernel
theorem dX3_compare_43 : decode cX3_compare 43 = .ok (.iload 5, 2) := by decide +kernel
theorem dX3_compare_45 : decode cX3_compare 45 = .ok (.iload_n 2, 1) := by decide +kernel
theorem dX3_compare_46 : decode cX3_compare 46 = .ok (.aload_n 1, 1) := by decide +kernel
theorem dX3_compare_47 : decode cX3_compare 47 = .ok (.iload 6, 2) := by decide +kernel
theorem dX3_compare_49 : decode cX3_compare 49 = .ok (.iload_n 3, 1) := by decide +kernel
theorem dX3_compare_50 : decode cX3_compare 50 = .ok (.invokevirtual 39, 3) := by decide +kernel
theorem dX3_compare_53 : decode cX3_compare 53 = .ok (.istore 7, 2) := by decide +kernel
theorem dX3_compare_55 : decode cX3_compare 55 = .ok (.iload 7, 2) := by decide +kernel
theorem dX3_compare_57 : decode cX3_compare 57 = .ok (.ifCond .eq 6, 3) := by decide +kernel
theorem dX3_compare_60 : decode cX3_compare 60 = .ok (.iload 7, 2) := by decide +kernel
theorem dX3_compare_62 : decode cX3_compare 62 = .ok (.ireturn, 1) := by decide +kernel
theorem dX3_compare_63 : decode cX3_compare 63 = .ok (.iload 5, 2) := by decide +kernel
theorem dX3_compare_65 : decode cX3_compare 65 = .ok (.iconst 1, 1) := by decide +kernel
theorem dX3_compare_66 : decode cX3_compare 66 = .ok (.isub, 1) := by decide +kernel
theorem dX3_compare_67 : decode cX3_compare 67 = .ok (.istore_n 2, 1) := by decide +kernel
theorem dX3_compare_68 : decode cX3_compare 68 = .ok (.iload 6, 2) := by decide +kernel
theorem dX3_compare_70 : decode cX3_compare 70 = .ok (.iconst 1, 1) := by decide +kernel
theorem dX3_compare_71 : decode cX3_compare 71 = .ok (.isub, 1) := by decide +kernel
theorem dX3_compare_72 : decode cX3_compare 72 = .ok (.istore_n 3, 1) := by decide +kernel
theorem dX3_compare_73 : decode cX3_compare 73 = .ok (.iinc 4 1, 3) := by decide +kernel
theorem dX3_compare_76 : decode cX3_compare 76 = .ok (.goto (-63), 3) := by decide +kernel
theorem dX3_compare_79 : decode cX3_compare 79 = .ok (.iload_n 2, 1) := by decide +kernel
theorem dX3_compare_80 : decode cX3_compare 80 = .ok (.iload_n 3, 1) := by decide +kernel
theorem dX3_compare_81 : decode cX3_compare 81 = .ok (.invokestatic 43, 3) := by decide +kernel
theorem dX3_compare_84 : decode cX3_compare 84 = .ok (.ireturn, 1) := by decide +kernel
theorem dX4_init_0 : decode cX4_init 0 = .ok (.aload_n 0, 1) := by decide +kernel
theorem dX4_init_1 : decode cX4_init 1 = .ok (.invokespecial 3, 3) := by decide +kernel
theorem dX4_init_4 : decode cX4_init 4 = .ok (.aload_n 0, 1) := by decide +kernel
theorem dX4_init_5 : decode cX4_init 5 = .ok (.bipush 41, 2) := by decide +kernel
theorem dX4_init_7 : decode cX4_init 7 = .ok (.anewarray 9, 3) := by decide +kernel
theorem dX4_init_10 : decode cX4_init 10 = .ok (.putfield 11, 3) := by decide +kernel
theorem dX4_init_13 : decode cX4_init 13 = .ok (.iconst 0, 1) := by decide +kernel
theorem dX4_init_14 : decode cX4_init 14 = .ok (.istore_n 1, 1) := by decide +kernel
theorem dX4_init_15 : decode cX4_init 15 = .ok (.iload_n 1, 1) := by decide +kernel
theorem dX4_init_16 : decode cX4_init 16 = .ok (.bipush 41, 2) := by decide +kernel
theorem dX4_init_18 : decode cX4_init 18 = .ok (.if_icmp .ge 22, 3) := by decide +kernel
theorem dX4_init_21 : decode cX4_init 21 = .ok (.aload_n 0, 1) := by decide +kernel
theorem dX4_init_22 : decode cX4_init 22 = .ok (.getfield 11, 3) := by decide +kernel
theorem dX4_init_25 : decode cX4_init 25 = .ok (.iload_n 1, 1) := by decide +kernel
theorem dX4_init_26 : decode cX4_init 26 = .ok (.new 9, 3) := by decide +kernel
theorem dX4_init_29 : decode cX4_init 29 = .ok (.dup, 1) := by decide +kernel
theorem dX4_init_30 : decode cX4_init 30 = .ok (.invokespecial 17, 3) := by decide +kernel
theorem dX4_init_33 : decode cX4_init 33 = .ok (.aastore, 1) := by decide +kernel
theorem dX4_init_34 : decode cX4_init 34 = .ok (.iinc 1 1, 3) := by decide +kernel
theorem dX4_init_37 : decode cX4_init 37 = .ok (.goto (-22), 3) := by decide +kernel
theorem dX4_init_40 : decode cX4_init 40 = .ok (.aload_n 0, 1) := by decide +kernel
theorem dX4_init_41 : decode cX4_init 41 = .ok (.iconst 0, 1) := by decide +kernel
theorem dX4_init_42 : decode cX4_init 42 = .ok (.putfield 18, 3) := by decide +kernel
theorem dX4_init_45 : decode cX4_init 45 = .ok (.aload_n 0, 1) := by decide +kernel
theorem dX4_init_46 : decode cX4_init 46 = .ok (.new 9, 3) := by decide +kernel
theorem dX4_init_49 : decode cX4_init 49 = .ok (.dup, 1) := by decide +kernel
theorem dX4_init_50 : decode cX4_init 50 = .ok (.invokespecial 17, 3) := by decide +kernel
theorem dX4_init_53 : decode cX4_init 53 = .ok (.putfield 22, 3) := by decide +kernel
theorem dX4_init_56 : decode cX4_init 56 = .ok (.aload_n 0, 1) := by decide +kernel
theorem dX4_init_57 : decode cX4_init 57 = .ok (.bipush 41, 2) := by decide +kernel
theorem dX4_init_59 : decode cX4_init 59 = .ok (.newarray .int, 2) := by decide +kernel
theorem dX4_init_61 : decode cX4_init 61 = .ok (.putfield 26, 3) := by decide +kernel
theorem dX4_init_64 : decode cX4_init 64 = .ok (.aload_n 0, 1) := by decide +kernel
theorem dX4_init_65 : decode cX4_init 65 = .ok (.new 30, 3) := by decide +kernel
theorem dX4_init_68 : decode cX4_init 68 = .ok (.dup, 1) := by decide +kernel
theorem dX4_init_69 : decode cX4_init 69 = .ok (.invokespecial 32, 3) := by decide +kernel
theorem dX4_init_72 : decode cX4_init 72 = .ok (.putfield 33, 3) := by decide +kernel
theorem dX4_init_75 : decode cX4_init 75 = .ok (.aload_n 0, 1) := by decide +kernel
theorem dX4_init_76 : decode cX4_init 76 = .ok (.new 37, 3) := by decide +kernel
theorem dX4_init_79 : decode cX4_init 79 = .ok (.dup, 1) := by decide +kernel
theorem dX4_init_80 : decode cX4_init 80 = .ok (.invokespecial 39, 3) := by decide +kernel
theorem dX4_init_83 : decode cX4_init 83 = .ok (.putfield 40, 3) := by decide +kernel
theorem dX4_init_86 : decode cX4_init 86 = .ok (.aload_n 0, 1) := by decide +kernel
theorem dX4_init_87 : decode cX4_init 87 = .ok (.new 37, 3) := by decide +kernel
theorem dX4_init_90 : decode cX4_init 90 = .ok (.dup, 1) := by decide +kernel
theorem dX4_init_91 : decode cX4_init 91 = .ok (.invokespecial 39, 3) := by decide +kernel
theorem dX4_init_94 : decode cX4_init 94 = .ok (.putfield 44, 3) := by decide +kernel
theorem dX4_init_97 : decode cX4_init 97 = .ok (.aload_n 0, 1) := by decide +kernel
theorem dX4_init_98 : decode cX4_init 98 = .ok (.new 47, 3) := by decide +kernel
theorem dX4_init_101 : decode cX4_init 101 = .ok (.dup, 1) := by decide +kernel
theorem dX4_init_102 : decode cX4_init 102 = .ok (.sipush 2091, 3) := by decide +kernel
theorem dX4_init_105 : decode cX4_init 105 = .ok (.invokespecial 49, 3) := by decide +kernel
theorem dX4_init_108 : decode cX4_init 108 = .ok (.putfield 52, 3) := by decide +kernel
theorem dX4_init_111 : decode cX4_init 111 = .ok (.aload_n 0, 1) := by decide +kernel
theorem dX4_init_112 : decode cX4_init 112 = .ok (.iconst 2, 1) := by decide +kernel
theorem dX4_init_113 : decode cX4_init 113 = .ok (.newarray .int, 2) := by decide +kernel
theorem dX4_init_115 : decode cX4_init 115 = .ok (.putfield 56, 3) := by decide +kernel
theorem dX4_init_118 : decode cX4_init 118 = .ok (.aload_n 0, 1) := by decide +kernel
theorem dX4_init_119 : decode cX4_init 119 = .ok (.getfield 56, 3) := by decide +kernel
theorem dX4_init_122 : decode cX4_init 122 = .ok (.iconst 0, 1) := by decide +kernel
theorem dX4_init_123 : decode cX4_init 123 = .ok (.iconst 5, 1) := by decide +kernel
theorem dX4_init_124 : decode cX4_init 124 = .ok (.iastore, 1) := by decide +kernel
theorem dX4_init_125 : decode cX4_init 125 = .ok (.aload_n 0, 1) := by decide +kernel
theorem dX4_init_126 : decode cX4_init 126 = .ok (.getfield 56, 3) := by decide +kernel
theorem dX4_init_129 : decode cX4_init 129 = .ok (.iconst 1, 1) := by decide +kernel
theorem dX4_init_130 : decode cX4_init 130 = .ok (.bipush 20, 2) := by decide +kernel
theorem dX4_init_132 : decode cX4_init 132 = .ok (.iastore, 1) := by decide +kernel
theorem dX4_init_133 : decode cX4_init 133 = .ok (.aload_n 0, 1) := by decide +kernel
theorem dX4_init_134 : decode cX4_init 134 = .ok (.bipush 7, 2) := by decide +kernel
theorem dX4_init_136 : decode cX4_init 136 = .ok (.newarray .int, 2) := by decide +kernel
theorem dX4_init_138 : decode cX4_init 138 = .ok (.putfield 59, 3) := by decide +kernel
theorem dX4_init_141 : decode cX4_init 141 = .ok (.aload_n 0, 1) := by decide +kernel
theorem dX4_init_142 : decode cX4_init 142 = .ok (.iconst 0, 1) := by decide +kernel
theorem dX4_init_143 : decode cX4_init 143 = .ok (.putfield 62, 3) := by decide +kernel
theorem dX4_init_146 : decode cX4_init 146 = .ok (.aload_n 0, 1) := by decide +kernel
theorem dX4_init_147 : decode cX4_init 147 = .ok (.iconst 0, 1) := by decide +kernel
theorem dX4_init_148 : decode cX4_init 148 = .ok (.putfield 65, 3) := by decide +kernel
theorem dX4_init_151 : decode cX4_init 151 = .ok (.aload_n 0, 1) := by decide +kernel
theorem dX4_init_152 : decode cX4_init 152 = .ok (.lconst 0, 1) := by decide +kernel
theorem dX4_init_153 : decode cX4_init 153 = .ok (.putfield 68, 3) := by decide +kernel
theorem dX4_init_156 : decode cX4_init 156 = .ok (.return_, 1) := by decide +kernel
theorem dX4_become_0 : decode cX4_become 0 = .ok (.aload_n 0, 1) := by decide +kernel
theorem dX4_become_1 : decode cX4_become 1 = .ok (.aload_n 1, 1) := by decide +kernel
theorem dX4_become_2 : decode cX4_become 2 = .ok (.getfield 18, 3) := by decide +kernel
theorem dX4_become_5 : decode cX4_become 5 = .ok (.putfield 18, 3) := by decide +kernel
theorem dX4_become_8 : decode cX4_become 8 = .ok (.iconst 0, 1) := by decide +kernel
theorem dX4_become_9 : decode cX4_become 9 = .ok (.istore_n 2, 1) := by decide +kernel
theorem dX4_become_10 : decode cX4_become 10 = .ok (.iload_n 2, 1) := by decide +kernel
theorem dX4_become_11 : decode cX4_become 11 = .ok (.aload_n 0, 1) := by decide +kernel
theorem dX4_become_12 : decode cX4_become 12 = .ok (.getfield 18, 3) := by decide +kernel
theorem dX4_become_15 : decode cX4_become 15 = .ok (.if_icmp .ge 24, 3) := by decide +kernel
theorem dX4_become_18 : decode cX4_become 18 = .ok (.aload_n 0, 1) := by decide +kernel
theorem dX4_become_19 : decode cX4_become 19 = .ok (.getfield 11, 3) := by decide +kernel
theorem dX4_become_22 : decode cX4_become 22 = .ok (.iload_n 2, 1) := by decide +kernel
theorem dX4_become_23 : decode cX4_become 23 = .ok (.aaload, 1) := by decide +kernel
theorem dX4_become_24 : decode cX4_become 24 = .ok (.aload_n 1, 1) := by decide +kernel
theorem dX4_become_25 : decode cX4_become 25 = .ok (.getfield 11, 3) := by decide +kernel
theorem dX4_become_28 : decode cX4_become 28 = .ok (.iload_n 2, 1) := by decide +kernel
theorem dX4_become_29 : decode cX4_become 29 = .ok (.aaload, 1) := by decide +kernel
theorem dX4_become_30 : decode cX4_become 30 = .ok (.invokevirtual 72, 3) := by decide +kernel
theorem dX4_become_33 : decode cX4_become 33 = .ok (.iinc 2 1, 3) := by decide +kernel
theorem dX4_become_36 : decode cX4_become 36 = .ok (.goto (-26), 3) := by decide +kernel
theorem dX4_become_39 : decode cX4_become 39 = .ok (.aload_n 0, 1) := by decide +kernel
theorem dX4_become_40 : decode cX4_become 40 = .ok (.getfield 33, 3) := by decide +kernel
theorem dX4_become_43 : decode cX4_become 43 = .ok (.aload_n 1, 1) := by decide +kernel
theorem dX4_become_44 : decode cX4_become 44 = .ok (.getfield 33, 3) := by decide +kernel
theorem dX4_become_47 : decode cX4_become 47 = .ok (.invokevirtual 76, 3) := by decide +kernel
theorem dX4_become_50 : decode cX4_become 50 = .ok (.aload_n 0, 1) := by decide +kernel
theorem dX4_become_51 : decode cX4_become 51 = .ok (.getfield 40, 3) := by decide +kernel
theorem dX4_become_54 : decode cX4_become 54 = .ok (.aload_n 1, 1) := by decide +kernel
theorem dX4_become_55 : decode cX4_become 55 = .ok (.getfield 40, 3) := by decide +kernel
theorem dX4_become_58 : decode cX4_become 58 = .ok (.invokevirtual 79, 3) := by decide +kernel
theorem dX4_become_61 : decode cX4_become 61 = .ok (.aload_n 0, 1) := by decide +kernel
theorem dX4_become_62 : decode cX4_become 62 = .ok (.getfield 44, 3) := by decide +kernel
theorem dX4_become_65 : decode cX4_become 65 = .ok (.aload_n 1, 1) := by decide +kernel
theorem dX4_become_66 : decode cX4_become 66 = .ok (.getfield 44, 3) := by decide +kernel
theorem dX4_become_69 : decode cX4_become 69 = .ok (.invokevirtual 79, 3) := by decide +kernel
theorem dX4_become_72 : decode cX4_become 72 = .ok (.aload_n 0, 1) := by decide +kernel
theorem dX4_become_73 : decode cX4_become 73 = .ok (.getfield 52, 3) := by decide +kernel
theorem dX4_become_76 : decode cX4_become 76 = .ok (.aload_n 1, 1) := by decide +kernel
theorem dX4_become_77 : decode cX4_become 77 = .ok (.getfield 52, 3) := by decide +kernel
theorem dX4_become_80 : decode cX4_become 80 = .ok (.invokevirtual 82, 3) := by decide +kernel
theorem dX4_become_83 : decode cX4_become 83 = .ok (.iconst 0, 1) := by decide +kernel
theorem dX4_become_84 : decode cX4_become 84 = .ok (.istore_n 2, 1) := by decide +kernel
theorem dX4_become_85 : decode cX4_become 85 = .ok (.iload_n 2, 1) := by decide +kernel
theorem dX4_become_86 : decode cX4_become 86 = .ok (.iconst 2, 1) := by decide +kernel
theorem dX4_become_87 : decode cX4_become 87 = .ok (.if_icmp .ge 21, 3) := by decide +kernel
theorem dX4_become_90 : decode cX4_become 90 = .ok (.aload_n 0, 1) := by decide +kernel
theorem dX4_become_91 : decode cX4_become 91 = .ok (.getfield 56, 3) := by decide +kernel
theorem dX4_become_94 : decode cX4_become 94 = .ok (.iload_n 2, 1) := by decide +kernel
theorem dX4_become_95 : decode cX4_become 95 = .ok (.aload_n 1, 1) := by decide +kernel
theorem dX4_become_96 : decode cX4_become 96 = .ok (.getfield 56, 3) := by decide +kernel
theorem dX4_become_99 : decode cX4_become 99 = .ok (.iload_n 2, 1) := by decide +kernel
theorem dX4_become_100 : decode cX4_become 100 = .ok (.iaload, 1) := by decide +kernel
theorem dX4_become_101 : decode cX4_become 101 = .ok (.iastore, 1) := by decide +kernel
theorem dX4_become_102 : decode cX4_become 102 = .ok (.iinc 2 1, 3) := by decide +kernel
theorem dX4_become_105 : decode cX4_become 105 = .ok (.goto (-20), 3) := by decide +kernel
theorem dX4_become_108 : decode cX4_become 108 = .ok (.iconst 0, 1) := by decide +kernel
theorem dX4_become_109 : decode cX4_become 109 = .ok (.istore_n 2, 1) := by decide +kernel
theorem dX4_become_110 : decode cX4_become 110 = .ok (.iload_n 2, 1) := by decide +kernel
theorem dX4_become_111 : decode cX4_become 111 = .ok (.bipush 7, 2) := by decide +kernel
theorem dX4_become_113 : decode cX4_become 113 = .ok (.if_icmp .ge 21, 3) := by decide +kernel
theorem dX4_become_116 : decode cX4_become 116 = .ok (.aload_n 0, 1) := by decide +kernel
theorem dX4_become_117 : decode cX4_become 117 = .ok (.getfield 59, 3) := by decide +kernel
theorem dX4_become_120 : decode cX4_become 120 = .ok (.iload_n 2, 1) := by decide +kernel
theorem dX4_become_121 : decode cX4_become 121 = .ok (.aload_n 1, 1) := by decide +kernel
theorem dX4_become_122 : decode cX4_become 122 = .ok (.getfield 59, 3) := by decide +kernel
theorem dX4_become_125 : decode cX4_become 125 = .ok (.iload_n 2, 1) := by decide +kernel
theorem dX4_become_126 : decode cX4_become 126 = .ok (.iaload, 1) := by decide +kernel
theorem dX4_become_127 : decode cX4_become 127 = .ok (.iastore, 1) := by decide +kernel
theorem dX4_become_128 : decode cX4_become 128 = .ok (.iinc 2 1, 3) := by decide +kernel
theorem dX4_become_131 : decode cX4_become 131 = .ok (.goto (-21), 3) := by decide +kernel
theorem dX4_become_134 : decode cX4_become 134 = .ok (.aload_n 0, 1) := by decide +kernel
theorem dX4_become_135 : decode cX4_become 135 = .ok (.aload_n 1, 1) := by decide +kernel
theorem dX4_become_136 : decode cX4_become 136 = .ok (.getfield 62, 3) := by decide +kernel
theorem dX4_become_139 : decode cX4_become 139 = .ok (.putfield 62, 3) := by decide +kernel
theorem dX4_become_142 : decode cX4_become 142 = .ok (.aload_n 0, 1) := by decide +kernel
theorem dX4_become_143 : decode cX4_become 143 = .ok (.aload_n 1, 1) := by decide +kernel
theorem dX4_become_144 : decode cX4_become 144 = .ok (.getfield 65, 3) := by decide +kernel
theorem dX4_become_147 : decode cX4_become 147 = .ok (.putfield 65, 3) := by decide +kernel
theorem dX4_become_150 : decode cX4_become 150 = .ok (.aload_n 0, 1) := by decide +kernel
theorem dX4_become_151 : decode cX4_become 151 = .ok (.aload_n 1, 1) := by decide +kernel
theorem dX4_become_152 : decode cX4_become 152 = .ok (.getfield 68, 3) := by decide +kernel
theorem dX4_become_155 : decode cX4_become 155 = .ok (.putfield 68, 3) := by decide +kernel
theorem dX4_become_158 : decode cX4_become 158 = .ok (.return_, 1) := by decide +kernel
theorem dX4_isCrossSite_0 : decode cX4_isCrossSite 0 = .ok (.aload_n 0, 1) := by decide +kernel
theorem dX4_isCrossSite_1 : decode cX4_isCrossSite 1 = .ok (.getfield 40, 3) := by decide +kernel
theorem dX4_isCrossSite_4 : decode cX4_isCrossSite 4 = .ok (.getfield 86, 3) := by decide +kernel
theorem dX4_isCrossSite_7 : decode cX4_isCrossSite 7 = .ok (.ifCond .eq 48, 3) := by decide +kernel
theorem dX4_isCrossSite_10 : decode cX4_isCrossSite 10 = .ok (.aload_n 0, 1) := by decide +kernel
theorem dX4_isCrossSite_11 : decode cX4_isCrossSite 11 = .ok (.getfield 40, 3) := by decide +kernel
theorem dX4_isCrossSite_14 : decode cX4_isCrossSite 14 = .ok (.getfield 90, 3) := by decide +kernel
theorem dX4_isCrossSite_17 : decode cX4_isCrossSite 17 = .ok (.aload_n 0, 1) := by decide +kernel
theorem dX4_isCrossSite_18 : decode cX4_isCrossSite 18 = .ok (.getfield 44, 3) := by decide +kernel
theorem dX4_isCrossSite_21 : decode cX4_isCrossSite 21 = .ok (.getfield 90, 3) := by decide +kernel
theorem dX4_isCrossSite_24 : decode cX4_isCrossSite 24 = .ok (.if_icmp .ne 27, 3) := by decide +kernel
theorem dX4_isCrossSite_27 : decode cX4_isCrossSite 27 = .ok (.aload_n 0, 1) := by decide +kernel
theorem dX4_isCrossSite_28 : decode cX4_isCrossSite 28 = .ok (.getfield 33, 3) := by decide +kernel
theorem dX4_isCrossSite_31 : decode cX4_isCrossSite 31 = .ok (.aload_n 0, 1) := by decide +kernel
theorem dX4_isCrossSite_32 : decode cX4_isCrossSite 32 = .ok (.getfield 40, 3) := by decide +kernel
theorem dX4_isCrossSite_35 : decode cX4_isCrossSite 35 = .ok (.getfield 93, 3) := by decide +kernel
theorem dX4_isCrossSite_38 : decode cX4_isCrossSite 38 = .ok (.aload_n 0, 1) := by decide +kernel
theorem dX4_isCrossSite_39 : decode cX4_isCrossSite 39 = .ok (.getfield 44, 3) := by decide +kernel
theorem dX4_isCrossSite_42 : decode cX4_isCrossSite 42 = .ok (.getfield 93, 3) := by decide +kernel
theorem dX4_isCrossSite_45 : decode cX4_isCrossSite 45 = .ok (.invokevirtual 96, 3) := by decide +kernel
theorem dX4_isCrossSite_48 : decode cX4_isCrossSite 48 = .ok (.ifCond .ne 7, 3) := by decide +kernel
theorem dX4_isCrossSite_51 : decode cX4_isCrossSite 51 = .ok (.iconst 1, 1) := by decide +kernel
theorem dX4_isCrossSite_52 : decode cX4_isCrossSite 52 = .ok (.goto 4, 3) := by decide +kernel
theorem dX4_isCrossSite_55 : decode cX4_isCrossSite 55 = .ok (.iconst 0, 1) := by decide +kernel
theorem dX4_isCrossSite_56 : decode cX4_isCrossSite 56 = .ok (.ireturn, 1) := by decide +kernel
theorem dX4_accept_0 : decode cX4_accept 0 = .ok (.aload_n 0, 1) := by decide +kernel
theorem dX4_accept_1 : decode cX4_accept 1 = .ok (.aload_n 1, 1) := by decide +kernel
theorem dX4_accept_2 : decode cX4_accept 2 = .ok (.invokestatic 100, 3) := by decide +kernel
theorem dX4_accept_5 : decode cX4_accept 5 = .ok (.putfield 65, 3) := by decide +kernel
theorem dX4_accept_8 : decode cX4_accept 8 = .ok (.aload_n 0, 1) := by decide +kernel
theorem dX4_accept_9 : decode cX4_accept 9 = .ok (.getfield 65, 3) := by decide +kernel
theorem dX4_accept_12 : decode cX4_accept 12 = .ok (.ifCond .ne 15, 3) := by decide +kernel
theorem dX4_accept_15 : decode cX4_accept 15 = .ok (.aload_n 0, 1) := by decide +kernel
theorem dX4_accept_16 : decode cX4_accept 16 = .ok (.aload_n 0, 1) := by decide +kernel
theorem dX4_accept_17 : decode cX4_accept 17 = .ok (.aload_n 1, 1) := by decide +kernel
theorem dX4_accept_18 : decode cX4_accept 18 = .ok (.getfield 104, 3) := by decide +kernel
theorem dX4_accept_21 : decode cX4_accept 21 = .ok (.invokevirtual 109, 3) := by decide +kernel
theorem dX4_accept_24 : decode cX4_accept 24 = .ok (.putfield 65, 3) := by decide +kernel
theorem dX4_accept_27 : decode cX4_accept 27 = .ok (.aload_n 0, 1) := by decide +kernel
theorem dX4_accept_28 : decode cX4_accept 28 = .ok (.getfield 65, 3) := by decide +kernel
theorem dX4_accept_31 : decode cX4_accept 31 = .ok (.ifCond .eq 8, 3) := by decide +kernel
theorem dX4_accept_34 : decode cX4_accept 34 = .ok (.aload_n 0, 1) := by decide +kernel
theorem dX4_accept_35 : decode cX4_accept 35 = .ok (.invokevirtual 113, 3) := by decide +kernel
theorem dX4_accept_38 : decode cX4_accept 38 = .ok (.ireturn, 1) := by decide +kernel
theorem dX4_accept_39 : decode cX4_accept 39 = .ok (.aload_n 0, 1) := by decide +kernel
theorem dX4_accept_40 : decode cX4_accept 40 = .ok (.aload_n 1, 1) := by decide +kernel
theorem dX4_accept_41 : decode cX4_accept 41 = .ok (.invokevirtual 117, 3) := by decide +kernel
theorem dX4_accept_44 : decode cX4_accept 44 = .ok (.aload_n 0, 1) := by decide +kernel
theorem dX4_accept_45 : decode cX4_accept 45 = .ok (.invokevirtual 121, 3) := by decide +kernel
theorem dX4_accept_48 : decode cX4_accept 48 = .ok (.istore_n 3, 1) := by decide +kernel
theorem dX4_accept_49 : decode cX4_accept 49 = .ok (.aload_n 0, 1) := by decide +kernel
theorem dX4_accept_50 : decode cX4_accept 50 = .ok (.iload_n 3, 1) := by decide +kernel
theorem dX4_accept_51 : decode cX4_accept 51 = .ok (.invokevirtual 124, 3) := by decide +kernel
theorem dX4_accept_54 : decode cX4_accept 54 = .ok (.istore 4, 2) := by decide +kernel
theorem dX4_accept_56 : decode cX4_accept 56 = .ok (.aload_n 0, 1) := by decide +kernel
theorem dX4_accept_57 : decode cX4_accept 57 = .ok (.aload_n 0, 1) := by decide +kernel
theorem dX4_accept_58 : decode cX4_accept 58 = .ok (.iload_n 2, 1) := by decide +kernel
theorem dX4_accept_59 : decode cX4_accept 59 = .ok (.invokevirtual 128, 3) := by decide +kernel
theorem dX4_accept_62 : decode cX4_accept 62 = .ok (.putfield 65, 3) := by decide +kernel
theorem dX4_accept_65 : decode cX4_accept 65 = .ok (.aload_n 0, 1) := by decide +kernel
theorem dX4_accept_66 : decode cX4_accept 66 = .ok (.getfield 65, 3) := by decide +kernel
theorem dX4_accept_69 : decode cX4_accept 69 = .ok (.ifCond .ne 30, 3) := by decide +kernel
theorem dX4_accept_72 : decode cX4_accept 72 = .ok (.iload_n 2, 1) := by decide +kernel
theorem dX4_accept_73 : decode cX4_accept 73 = .ok (.ifCond .eq 26, 3) := by decide +kernel
theorem dX4_accept_76 : decode cX4_accept 76 = .ok (.iload 4, 2) := by decide +kernel
theorem dX4_accept_78 : decode cX4_accept 78 = .ok (.ifCond .eq 21, 3) := by decide +kernel
theorem dX4_accept_81 : decode cX4_accept 81 = .ok (.aload_n 0, 1) := by decide +kernel
theorem dX4_accept_82 : decode cX4_accept 82 = .ok (.getfield 11, 3) := by decide +kernel
theorem dX4_accept_85 : decode cX4_accept 85 = .ok (.iload_n 3, 1) := by decide +kernel
theorem dX4_accept_86 : decode cX4_accept 86 = .ok (.aaload, 1) := by decide +kernel
theorem dX4_accept_87 : decode cX4_accept 87 = .ok (.getfield 132, 3) := by decide +kernel
theorem dX4_accept_90 : decode cX4_accept 90 = .ok (.ifCond .eq 9, 3) := by decide +kernel
theorem dX4_accept_93 : decode cX4_accept 93 = .ok (.aload_n 0, 1) := by decide +kernel
theorem dX4_accept_94 : decode cX4_accept 94 = .ok (.bipush 62, 2) := by decide +kernel
theorem dX4_accept_96 : decode cX4_accept 96 = .ok (.putfield 65, 3) := by decide +kernel
theorem dX4_accept_99 : decode cX4_accept 99 = .ok (.aload_n 0, 1) := by decide +kernel
theorem dX4_accept_100 : decode cX4_accept 100 = .ok (.getfield 65, 3) := by decide +kernel
theorem dX4_accept_103 : decode cX4_accept 103 = .ok (.ifCond .eq 8, 3) := by decide +kernel
theorem dX4_accept_106 : decode cX4_accept 106 = .ok (.aload_n 0, 1) := by decide +kernel
theorem dX4_accept_107 : decode cX4_accept 107 = .ok (.invokevirtual 113, 3) := by decide +kernel
theorem dX4_accept_110 : decode cX4_accept 110 = .ok (.ireturn, 1) := by decide +kernel
theorem dX4_accept_111 : decode cX4_accept 111 = .ok (.aload_n 1, 1) := by decide +kernel
theorem dX4_accept_112 : decode cX4_accept 112 = .ok (.aload_n 0, 1) := by decide +kernel
theorem dX4_accept_113 : decode cX4_accept 113 = .ok (.getfield 68, 3) := by decide +kernel
theorem dX4_accept_116 : decode cX4_accept 116 = .ok (.invokevirtual 135, 3) := by decide +kernel
theorem dX4_accept_119 : decode cX4_accept 119 = .ok (.ifCond .eq 21, 3) := by decide +kernel
theorem dX4_accept_122 : decode cX4_accept 122 = .ok (.iload 4, 2) := by decide +kernel
theorem dX4_accept_124 : decode cX4_accept 124 = .ok (.ifCond .eq 11, 3) := by decide +kernel
theorem dX4_accept_127 : decode cX4_accept 127 = .ok (.aload_n 0, 1) := by decide +kernel
theorem dX4_accept_128 : decode cX4_accept 128 = .ok (.iload_n 3, 1) := by decide +kernel
theorem dX4_accept_129 : decode cX4_accept 129 = .ok (.invokevirtual 139, 3) := by decide +kernel
theorem dX4_accept_132 : decode cX4_accept 132 = .ok (.goto 7, 3) := by decide +kernel
theorem dX4_accept_135 : decode cX4_accept 135 = .ok (.aload_n 0, 1) := by decide +kernel
theorem dX4_accept_136 : decode cX4_accept 136 = .ok (.invokevirtual 143, 3) := by decide +kernel
theorem dX4_accept_139 : decode cX4_accept 139 = .ok (.ireturn, 1) := by decide +kernel
theorem dX4_accept_140 : decode cX4_accept 140 = .ok (.iload 4, 2) := by decide +kernel
theorem dX4_accept_142 : decode cX4_accept 142 = .ok (.ifCond .eq 11, 3) := by decide +kernel
theorem dX4_accept_145 : decode cX4_accept 145 = .ok (.aload_n 0, 1) := by decide +kernel
theorem dX4_accept_146 : decode cX4_accept 146 = .ok (.iload_n 3, 1) := by decide +kernel
theorem dX4_accept_147 : decode cX4_accept 147 = .ok (.invokevirtual 146, 3) := by decide +kernel
theorem dX4_accept_150 : decode cX4_accept 150 = .ok (.goto 8, 3) := by decide +kernel
theorem dX4_accept_153 : decode cX4_accept 153 = .ok (.aload_n 0, 1) := by decide +kernel
theorem dX4_accept_154 : decode cX4_accept 154 = .ok (.iload_n 3, 1) := by decide +kernel
theorem dX4_accept_155 : decode cX4_accept 155 = .ok (.invokevirtual 149, 3) := by decide +kernel
theorem dX4_accept_158 : decode cX4_accept 158 = .ok (.ireturn, 1) := by decide +kernel
theorem dX4_reject_0 : decode cX4_reject 0 = .ok (.aload_n 0, 1) := by decide +kernel
theorem dX4_reject_1 : decode cX4_reject 1 = .ok (.getfield 59, 3) := by decide +kernel
theorem dX4_reject_4 : decode cX4_reject 4 = .ok (.iconst 5, 1) := by decide +kernel
theorem dX4_reject_5 : decode cX4_reject 5 = .ok (.dup2, 1) := by decide +kernel
theorem dX4_reject_6 : decode cX4_reject 6 = .ok (.iaload, 1) := by decide +kernel
theorem dX4_reject_7 : decode cX4_reject 7 = .ok (.iconst 1, 1) := by decide +kernel
theorem dX4_reject_8 : decode cX4_reject 8 = .ok (.iadd, 1) := by decide +kernel
theorem dX4_reject_9 : decode cX4_reject 9 = .ok (.iastore, 1) := by decide +kernel
theorem dX4_reject_10 : decode cX4_reject 10 = .ok (.iconst 0, 1) := by decide +kernel
theorem dX4_reject_11 : decode cX4_reject 11 = .ok (.ireturn, 1) := by decide +kernel
theorem dX4_ignore_0 : decode cX4_ignore 0 = .ok (.aload_n 0, 1) := by decide +kernel
theorem dX4_ignore_1 : decode cX4_ignore 1 = .ok (.getfield 59, 3) := by decide +kernel
theorem dX4_ignore_4 : decode cX4_ignore 4 = .ok (.bipush 6, 2) := by decide +kernel
theorem dX4_ignore_6 : decode cX4_ignore 6 = .ok (.dup2, 1) := by decide +kernel
theorem dX4_ignore_7 : decode cX4_ignore 7 = .ok (.iaload, 1) := by decide +kernel
theorem dX4_ignore_8 : decode cX4_ignore 8 = .ok (.iconst 1, 1) := by decide +kernel
theorem dX4_ignore_9 : decode cX4_ignore 9 = .ok (.iadd, 1) := by decide +kernel
theorem dX4_ignore_10 : decode cX4_ignore 10 = .ok (.iastore, 1) := by decide +kernel
theorem dX4_ignore_11 : decode cX4_ignore 11 = .ok (.iconst 0, 1) := by decide +kernel
theorem dX4_ignore_12 : decode cX4_ignore 12 = .ok (.ireturn, 1) := by decide +kernel
theorem dX4_expire_0 : decode cX4_expire 0 = .ok (.aload_n 0, 1) := by decide +kernel
theorem dX4_expire_1 : decode cX4_expire 1 = .ok (.iload_n 1, 1) := by decide +kernel
theorem dX4_expire_2 : decode cX4_expire 2 = .ok (.invokevirtual 152, 3) := by decide +kernel
theorem dX4_expire_5 : decode cX4_expire 5 = .ok (.aload_n 0, 1) := by decide +kernel
theorem dX4_expire_6 : decode cX4_expire 6 = .ok (.getfield 59, 3) := by decide +kernel
theorem dX4_expire_9 : decode cX4_expire 9 = .ok (.iconst 2, 1) := by decide +kernel
theorem dX4_expire_10 : decode cX4_expire 10 = .ok (.dup2, 1) := by decide +kernel
theorem dX4_expire_11 : decode cX4_expire 11 = .ok (.iaload, 1) := by decide +kernel
theorem dX4_expire_12 : decode cX4_expire 12 = .ok (.iconst 1, 1) := by decide +kernel
theorem dX4_expire_13 : decode cX4_expire 13 = .ok (.iadd, 1) := by decide +kernel
theorem dX4_expire_14 : decode cX4_expire 14 = .ok (.iastore, 1) := by decide +kernel
theorem dX4_expire_15 : decode cX4_expire 15 = .ok (.iconst 3, 1) := by decide +kernel
theorem dX4_expire_16 : decode cX4_expire 16 = .ok (.ireturn, 1) := by decide +kernel
theorem dX4_replace_0 : decode cX4_replace 0 = .ok (.aload_n 0, 1) := by decide +kernel
theorem dX4_replace_1 : decode cX4_replace 1 = .ok (.getfield 22, 3) := by decide +kernel
theorem dX4_replace_4 : decode cX4_replace 4 = .ok (.aload_n 0, 1) := by decide +kernel
theorem dX4_replace_5 : decode cX4_replace 5 = .ok (.getfield 11, 3) := by decide +kernel
theorem dX4_replace_8 : decode cX4_replace 8 = .ok (.iload_n 1, 1) := by decide +kernel
theorem dX4_replace_9 : decode cX4_replace 9 = .ok (.aaload, 1) := by decide +kernel
theorem dX4_replace_10 : decode cX4_replace 10 = .ok (.getfield 155, 3) := by decide +kernel
theorem dX4_replace_13 : decode cX4_replace 13 = .ok (.putfield 155, 3) := by decide +kernel
theorem dX4_replace_16 : decode cX4_replace 16 = .ok (.aload_n 0, 1) := by decide +kernel
theorem dX4_replace_17 : decode cX4_replace 17 = .ok (.getfield 22, 3) := by decide +kernel
theorem dX4_replace_20 : decode cX4_replace 20 = .ok (.aload_n 0, 1) := by decide +kernel
theorem dX4_replace_21 : decode cX4_replace 21 = .ok (.getfield 11, 3) := by decide +kernel
theorem dX4_replace_24 : decode cX4_replace 24 = .ok (.iload_n 1, 1) := by decide +kernel
theorem dX4_replace_25 : decode cX4_replace 25 = .ok (.aaload, 1) := by decide +kernel
theorem dX4_replace_26 : decode cX4_replace 26 = .ok (.getfield 158, 3) := by decide +kernel
theorem dX4_replace_29 : decode cX4_replace 29 = .ok (.putfield 158, 3) := by decide +kernel
theorem dX4_replace_32 : decode cX4_replace 32 = .ok (.aload_n 0, 1) := by decide +kernel
theorem dX4_replace_33 : decode cX4_replace 33 = .ok (.getfield 11, 3) := by decide +kernel
theorem dX4_replace_36 : decode cX4_replace 36 = .ok (.iload_n 1, 1) := by decide +kernel
theorem dX4_replace_37 : decode cX4_replace 37 = .ok (.aaload, 1) := by decide +kernel
theorem dX4_replace_38 : decode cX4_replace 38 = .ok (.aload_n 0, 1) := by decide +kernel
theorem dX4_replace_39 : decode cX4_replace 39 = .ok (.getfield 22, 3) := by decide +kernel
theorem dX4_replace_42 : decode cX4_replace 42 = .ok (.invokevirtual 72, 3) := by decide +kernel
theorem dX4_replace_45 : decode cX4_replace 45 = .ok (.aload_n 0, 1) := by decide +kernel
theorem dX4_replace_46 : decode cX4_replace 46 = .ok (.getfield 59, 3) := by decide +kernel
theorem dX4_replace_49 : decode cX4_replace 49 = .ok (.iconst 1, 1) := by decide +kernel
theorem dX4_replace_50 : decode cX4_replace 50 = .ok (.dup2, 1) := by decide +kernel
theorem dX4_replace_51 : decode cX4_replace 51 = .ok (.iaload, 1) := by decide +kernel
theorem dX4_replace_52 : decode cX4_replace 52 = .ok (.iconst 1, 1) := by decide +kernel
theorem dX4_replace_53 : decode cX4_replace 53 = .ok (.iadd, 1) := by decide +kernel
theorem dX4_replace_54 : decode cX4_replace 54 = .ok (.iastore, 1) := by decide +kernel
theorem dX4_replace_55 : decode cX4_replace 55 = .ok (.iconst 2, 1) := by decide +kernel
theorem dX4_replace_56 : decode cX4_replace 56 = .ok (.ireturn, 1) := by decide +kernel
theorem dX4_create_0 : decode cX4_create 0 = .ok (.aload_n 0, 1) := by decide +kernel
theorem dX4_create_1 : decode cX4_create 1 = .ok (.getfield 18, 3) := by decide +kernel
theorem dX4_create_4 : decode cX4_create 4 = .ok (.bipush 41, 2) := by decide +kernel
theorem dX4_create_6 : decode cX4_create 6 = .ok (.if_icmp .ge 11, 3) := by decide +kernel
theorem dX4_create_9 : decode cX4_create 9 = .ok (.iload_n 1, 1) := by decide +kernel
theorem dX4_create_10 : decode cX4_create 10 = .ok (.aload_n 0, 1) := by decide +kernel
theorem dX4_create_11 : decode cX4_create 11 = .ok (.getfield 18, 3) := by decide +kernel
theorem dX4_create_14 : decode cX4_create 14 = .ok (.if_icmp .le 5, 3) := by decide +kernel
theorem dX4_create_17 : decode cX4_create 17 = .ok (.iconst 0, 1) := by decide +kernel
theorem dX4_create_18 : decode cX4_create 18 = .ok (.ireturn, 1) := by decide +kernel
theorem dX4_create_19 : decode cX4_create 19 = .ok (.aload_n 0, 1) := by decide +kernel
theorem dX4_create_20 : decode cX4_create 20 = .ok (.getfield 11, 3) := by decide +kernel
theorem dX4_create_23 : decode cX4_create 23 = .ok (.aload_n 0, 1) := by decide +kernel
theorem dX4_create_24 : decode cX4_create 24 = .ok (.getfield 18, 3) := by decide +kernel
theorem dX4_create_27 : decode cX4_create 27 = .ok (.aaload, 1) := by decide +kernel
theorem dX4_create_28 : decode cX4_create 28 = .ok (.astore_n 2, 1) := by decide +kernel
theorem dX4_create_29 : decode cX4_create 29 = .ok (.aload_n 0, 1) := by decide +kernel
theorem dX4_create_30 : decode cX4_create 30 = .ok (.getfield 18, 3) := by decide +kernel
theorem dX4_create_33 : decode cX4_create 33 = .ok (.istore_n 3, 1) := by decide +kernel
theorem dX4_create_34 : decode cX4_create 34 = .ok (.iload_n 3, 1) := by decide +kernel
theorem dX4_create_35 : decode cX4_create 35 = .ok (.iload_n 1, 1) := by decide +kernel
theorem dX4_create_36 : decode cX4_create 36 = .ok (.if_icmp .le 23, 3) := by decide +kernel
theorem dX4_create_39 : decode cX4_create 39 = .ok (.aload_n 0, 1) := by decide +kernel
theorem dX4_create_40 : decode cX4_create 40 = .ok (.getfield 11, 3) := by decide +kernel
theorem dX4_create_43 : decode cX4_create 43 = .ok (.iload_n 3, 1) := by decide +kernel
theorem dX4_create_44 : decode cX4_create 44 = .ok (.aload_n 0, 1) := by decide +kernel
theorem dX4_create_45 : decode cX4_create 45 = .ok (.getfield 11, 3) := by decide +kernel
theorem dX4_create_48 : decode cX4_create 48 = .ok (.iload_n 3, 1) := by decide +kernel
theorem dX4_create_49 : decode cX4_create 49 = .ok (.iconst 1, 1) := by decide +kernel
theorem dX4_create_50 : decode cX4_create 50 = .ok (.isub, 1) := by decide +kernel
theorem dX4_create_51 : decode cX4_create 51 = .ok (.aaload, 1) := by decide +kernel
theorem dX4_create_52 : decode cX4_create 52 = .ok (.aastore, 1) := by decide +kernel
theorem dX4_create_53 : decode cX4_create 53 = .ok (.iinc 3 (-1), 3) := by decide +kernel
theorem dX4_create_56 : decode cX4_create 56 = .ok (.goto (-22), 3) := by decide +kernel
theorem dX4_create_59 : decode cX4_create 59 = .ok (.aload_n 0, 1) := by decide +kernel
theorem dX4_create_60 : decode cX4_create 60 = .ok (.getfield 11, 3) := by decide +kernel
theorem dX4_create_63 : decode cX4_create 63 = .ok (.iload_n 1, 1) := by decide +kernel
theorem dX4_create_64 : decode cX4_create 64 = .ok (.aload_n 2, 1) := by decide +kernel
theorem dX4_create_65 : decode cX4_create 65 = .ok (.aastore, 1) := by decide +kernel
theorem dX4_create_66 : decode cX4_create 66 = .ok (.aload_n 0, 1) := by decide +kernel
theorem dX4_create_67 : decode cX4_create 67 = .ok (.dup, 1) := by decide +kernel
theorem dX4_create_68 : decode cX4_create 68 = .ok (.getfield 18, 3) := by decide +kernel
theorem dX4_create_71 : decode cX4_create 71 = .ok (.iconst 1, 1) := by decide +kernel
theorem dX4_create_72 : decode cX4_create 72 = .ok (.iadd, 1) := by decide +kernel
theorem dX4_create_73 : decode cX4_create 73 = .ok (.putfield 18, 3) := by decide +kernel
theorem dX4_create_76 : decode cX4_create 76 = .ok (.aload_n 2, 1) := by decide +kernel
theorem dX4_create_77 : decode cX4_create 77 = .ok (.aload_n 0, 1) := by decide +kernel
theorem dX4_create_78 : decode cX4_create 78 = .ok (.getfield 22, 3) := by decide +kernel
theorem dX4_create_81 : decode cX4_create 81 = .ok (.invokevirtual 72, 3) := by decide +kernel
theorem dX4_create_84 : decode cX4_create 84 = .ok (.aload_n 0, 1) := by decide +kernel
theorem dX4_create_85 : decode cX4_create 85 = .ok (.getfield 59, 3) := by decide +kernel
theorem dX4_create_88 : decode cX4_create 88 = .ok (.iconst 0, 1) := by decide +kernel
theorem dX4_create_89 : decode cX4_create 89 = .ok (.dup2, 1) := by decide +kernel
theorem dX4_create_90 : decode cX4_create 90 = .ok (.iaload, 1) := by decide +kernel
theorem dX4_create_91 : decode cX4_create 91 = .ok (.iconst 1, 1) := by decide +kernel
theorem dX4_create_92 : decode cX4_create 92 = .ok (.iadd, 1) := by decide +kernel
theorem dX4_create_93 : decode cX4_create 93 = .ok (.iastore, 1) := by decide +kernel
theorem dX4_create_94 : decode cX4_create 94 = .ok (.iconst 1, 1) := by decide +kernel
theorem dX4_create_95 : decode cX4_create 95 = .ok (.ireturn, 1) := by decide +kernel
theorem dX4_causeInText_0 : decode cX4_causeInText 0 = .ok (.aload_n 0, 1) := by decide +kernel
theorem dX4_causeInText_1 : decode cX4_causeInText 1 = .ok (.getfield 161, 3) := by decide +kernel
theorem dX4_causeInText_4 : decode cX4_causeInText 4 = .ok (.ifCond .ne 6, 3) := by decide +kernel
theorem dX4_causeInText_7 : decode cX4_causeInText 7 = .ok (.bipush 11, 2) := by decide +kernel
theorem dX4_causeInText_9 : decode cX4_causeInText 9 = .ok (.ireturn, 1) := by decide +kernel
theorem dX4_causeInText_10 : decode cX4_causeInText 10 = .ok (.aload_n 0, 1) := by decide +kernel
theorem dX4_causeInText_11 : decode cX4_causeInText 11 = .ok (.getfield 164, 3) := by decide +kernel
theorem dX4_causeInText_14 : decode cX4_causeInText 14 = .ok (.getfield 167, 3) := by decide +kernel
theorem dX4_causeInText_17 : decode cX4_causeInText 17 = .ok (.ifCond .ne 6, 3) := by decide +kernel
theorem dX4_causeInText_20 : decode cX4_causeInText 20 = .ok (.bipush 12, 2) := by decide +kernel
theorem dX4_causeInText_22 : decode cX4_causeInText 22 = .ok (.ireturn, 1) := by decide +kernel
theorem dX4_causeInText_23 : decode cX4_causeInText 23 = .ok (.aload_n 0, 1) := by decide +kernel
theorem dX4_causeInText_24 : decode cX4_causeInText 24 = .ok (.getfield 164, 3) := by decide +kernel
theorem dX4_causeInText_27 : decode cX4_causeInText 27 = .ok (.getfield 167, 3) := by decide +kernel
theorem dX4_causeInText_30 : decode cX4_causeInText 30 = .ok (.bipush 16, 2) := by decide +kernel
theorem dX4_causeInText_32 : decode cX4_causeInText 32 = .ok (.if_icmp .gt 15, 3) := by decide +kernel
theorem dX4_causeInText_35 : decode cX4_causeInText 35 = .ok (.aload_n 0, 1) := by decide +kernel
theorem dX4_causeInText_36 : decode cX4_causeInText 36 = .ok (.getfield 170, 3) := by decide +kernel
theorem dX4_causeInText_39 : decode cX4_causeInText 39 = .ok (.getfield 167, 3) := by decide +kernel
theorem dX4_causeInText_42 : decode cX4_causeInText 42 = .ok (.bipush 32, 2) := by decide +kernel
theorem dX4_causeInText_44 : decode cX4_causeInText 44 = .ok (.if_icmp .le 8, 3) := by decide +kernel
theorem dX4_causeInText_47 : decode cX4_causeInText 47 = .ok (.bipush 13, 2) := by decide +kernel
theorem dX4_causeInText_49 : decode cX4_causeInText 49 = .ok (.goto 4, 3) := by decide +kernel
theorem dX4_causeInText_52 : decode cX4_causeInText 52 = .ok (.iconst 0, 1) := by decide +kernel
theorem dX4_causeInText_53 : decode cX4_causeInText 53 = .ok (.ireturn, 1) := by decide +kernel
theorem dX4_causeInDomain_0 : decode cX4_causeInDomain 0 = .ok (.aload_n 1, 1) := by decide +kernel
theorem dX4_causeInDomain_1 : decode cX4_causeInDomain 1 = .ok (.getfield 167, 3) := by decide +kernel
theorem dX4_causeInDomain_4 : decode cX4_causeInDomain 4 = .ok (.ifCond .ne 5, 3) := by decide +kernel
theorem dX4_causeInDomain_7 : decode cX4_causeInDomain 7 = .ok (.iconst 0, 1) := by decide +kernel
theorem dX4_causeInDomain_8 : decode cX4_causeInDomain 8 = .ok (.ireturn, 1) := by decide +kernel
theorem dX4_causeInDomain_9 : decode cX4_causeInDomain 9 = .ok (.aload_n 1, 1) := by decide +kernel
theorem dX4_causeInDomain_10 : decode cX4_causeInDomain 10 = .ok (.invokestatic 173, 3) := by decide +kernel
theorem dX4_causeInDomain_13 : decode cX4_causeInDomain 13 = .ok (.ifCond .ne 6, 3) := by decide +kernel
theorem dX4_causeInDomain_16 : decode cX4_causeInDomain 16 = .ok (.bipush 22, 2) := by decide +kernel
theorem dX4_causeInDomain_18 : decode cX4_causeInDomain 18 = .ok (.ireturn, 1) := by decide +kernel
theorem dX4_causeInDomain_19 : decode cX4_causeInDomain 19 = .ok (.aload_n 0, 1) := by decide +kernel
theorem dX4_causeInDomain_20 : decode cX4_causeInDomain 20 = .ok (.getfield 33, 3) := by decide +kernel
theorem dX4_causeInDomain_23 : decode cX4_causeInDomain 23 = .ok (.aload_n 1, 1) := by decide +kernel
theorem dX4_causeInDomain_24 : decode cX4_causeInDomain 24 = .ok (.invokevirtual 179, 3) := by decide +kernel
theorem dX4_causeInDomain_27 : decode cX4_causeInDomain 27 = .ok (.ifCond .eq 24, 3) := by decide +kernel
theorem dX4_causeInDomain_30 : decode cX4_causeInDomain 30 = .ok (.aload_n 1, 1) := by decide +kernel
theorem dX4_causeInDomain_31 : decode cX4_causeInDomain 31 = .ok (.aload_n 0, 1) := by decide +kernel
theorem dX4_causeInDomain_32 : decode cX4_causeInDomain 32 = .ok (.getfield 44, 3) := by decide +kernel
theorem dX4_causeInDomain_35 : decode cX4_causeInDomain 35 = .ok (.getfield 93, 3) := by decide +kernel
theorem dX4_causeInDomain_38 : decode cX4_causeInDomain 38 = .ok (.invokevirtual 182, 3) := by decide +kernel
theorem dX4_causeInDomain_41 : decode cX4_causeInDomain 41 = .ok (.ifCond .eq 7, 3) := by decide +kernel
theorem dX4_causeInDomain_44 : decode cX4_causeInDomain 44 = .ok (.iconst 0, 1) := by decide +kernel
theorem dX4_causeInDomain_45 : decode cX4_causeInDomain 45 = .ok (.goto 5, 3) := by decide +kernel
theorem dX4_causeInDomain_48 : decode cX4_causeInDomain 48 = .ok (.bipush 21, 2) := by decide +kernel
theorem dX4_causeInDomain_50 : decode cX4_causeInDomain 50 = .ok (.ireturn, 1) := by decide +kernel
theorem dX4_causeInDomain_51 : decode cX4_causeInDomain 51 = .ok (.aload_n 0, 1) := by decide +kernel
theorem dX4_causeInDomain_52 : decode cX4_causeInDomain 52 = .ok (.getfield 44, 3) := by decide +kernel
theorem dX4_causeInDomain_55 : decode cX4_causeInDomain 55 = .ok (.getfield 93, 3) := by decide +kernel
theorem dX4_causeInDomain_58 : decode cX4_causeInDomain 58 = .ok (.aload_n 1, 1) := by decide +kernel
theorem dX4_causeInDomain_59 : decode cX4_causeInDomain 59 = .ok (.invokevirtual 185, 3) := by decide +kernel
theorem dX4_causeInDomain_62 : decode cX4_causeInDomain 62 = .ok (.ifCond .eq 7, 3) := by decide +kernel
theorem dX4_causeInDomain_65 : decode cX4_causeInDomain 65 = .ok (.iconst 0, 1) := by decide +kernel
theorem dX4_causeInDomain_66 : decode cX4_causeInDomain 66 = .ok (.goto 5, 3) := by decide +kernel
theorem dX4_causeInDomain_69 : decode cX4_causeInDomain 69 = .ok (.bipush 22, 2) := by decide +kernel
theorem dX4_causeInDomain_71 : decode cX4_causeInDomain 71 = .ok (.ireturn, 1) := by decide +kernel
theorem dX4_shape_0 : decode cX4_shape 0 = .ok (.aload_n 0, 1) := by decide +kernel
theorem dX4_shape_1 : decode cX4_shape 1 = .ok (.getfield 22, 3) := by decide +kernel
theorem dX4_shape_4 : decode cX4_shape 4 = .ok (.getfield 188, 3) := by decide +kernel
theorem dX4_shape_7 : decode cX4_shape 7 = .ok (.aload_n 1, 1) := by decide +kernel
theorem dX4_shape_8 : decode cX4_shape 8 = .ok (.getfield 164, 3) := by decide +kernel
theorem dX4_shape_11 : decode cX4_shape 11 = .ok (.invokevirtual 82, 3) := by decide +kernel
theorem dX4_shape_14 : decode cX4_shape 14 = .ok (.aload_n 0, 1) := by decide +kernel
theorem dX4_shape_15 : decode cX4_shape 15 = .ok (.getfield 22, 3) := by decide +kernel
theorem dX4_shape_18 : decode cX4_shape 18 = .ok (.getfield 189, 3) := by decide +kernel
theorem dX4_shape_21 : decode cX4_shape 21 = .ok (.aload_n 1, 1) := by decide +kernel
theorem dX4_shape_22 : decode cX4_shape 22 = .ok (.getfield 170, 3) := by decide +kernel
theorem dX4_shape_25 : decode cX4_shape 25 = .ok (.invokevirtual 82, 3) := by decide +kernel
theorem dX4_shape_28 : decode cX4_shape 28 = .ok (.aload_n 0, 1) := by decide +kernel
theorem dX4_shape_29 : decode cX4_shape 29 = .ok (.getfield 22, 3) := by decide +kernel
theorem dX4_shape_32 : decode cX4_shape 32 = .ok (.aload_n 1, 1) := by decide +kernel
theorem dX4_shape_33 : decode cX4_shape 33 = .ok (.getfield 104, 3) := by decide +kernel
theorem dX4_shape_36 : decode cX4_shape 36 = .ok (.getfield 167, 3) := by decide +kernel
theorem dX4_shape_39 : decode cX4_shape 39 = .ok (.ifCond .eq 17, 3) := by decide +kernel
theorem dX4_shape_42 : decode cX4_shape 42 = .ok (.aload_n 0, 1) := by decide +kernel
theorem dX4_shape_43 : decode cX4_shape 43 = .ok (.getfield 33, 3) := by decide +kernel
theorem dX4_shape_46 : decode cX4_shape 46 = .ok (.aload_n 1, 1) := by decide +kernel
theorem dX4_shape_47 : decode cX4_shape 47 = .ok (.getfield 104, 3) := by decide +kernel
theorem dX4_shape_50 : decode cX4_shape 50 = .ok (.invokevirtual 179, 3) := by decide +kernel
theorem dX4_shape_53 : decode cX4_shape 53 = .ok (.ifCond .eq 7, 3) := by decide +kernel
theorem dX4_shape_56 : decode cX4_shape 56 = .ok (.iconst 1, 1) := by decide +kernel
theorem dX4_shape_57 : decode cX4_shape 57 = .ok (.goto 4, 3) := by decide +kernel
theorem dX4_shape_60 : decode cX4_shape 60 = .ok (.iconst 0, 1) := by decide +kernel
theorem dX4_shape_61 : decode cX4_shape 61 = .ok (.putfield 190, 3) := by decide +kernel
theorem dX4_shape_64 : decode cX4_shape 64 = .ok (.aload_n 0, 1) := by decide +kernel
theorem dX4_shape_65 : decode cX4_shape 65 = .ok (.getfield 22, 3) := by decide +kernel
theorem dX4_shape_68 : decode cX4_shape 68 = .ok (.getfield 193, 3) := by decide +kernel
theorem dX4_shape_71 : decode cX4_shape 71 = .ok (.aload_n 0, 1) := by decide +kernel
theorem dX4_shape_72 : decode cX4_shape 72 = .ok (.getfield 22, 3) := by decide +kernel
theorem dX4_shape_75 : decode cX4_shape 75 = .ok (.getfield 190, 3) := by decide +kernel
theorem dX4_shape_78 : decode cX4_shape 78 = .ok (.ifCond .eq 13, 3) := by decide +kernel
theorem dX4_shape_81 : decode cX4_shape 81 = .ok (.aload_n 0, 1) := by decide +kernel
theorem dX4_shape_82 : decode cX4_shape 82 = .ok (.getfield 44, 3) := by decide +kernel
theorem dX4_shape_85 : decode cX4_shape 85 = .ok (.getfield 93, 3) := by decide +kernel
theorem dX4_shape_88 : decode cX4_shape 88 = .ok (.goto 7, 3) := by decide +kernel
theorem dX4_shape_91 : decode cX4_shape 91 = .ok (.aload_n 1, 1) := by decide +kernel
theorem dX4_shape_92 : decode cX4_shape 92 = .ok (.getfield 104, 3) := by decide +kernel
theorem dX4_shape_95 : decode cX4_shape 95 = .ok (.invokevirtual 82, 3) := by decide +kernel
theorem dX4_shape_98 : decode cX4_shape 98 = .ok (.aload_n 1, 1) := by decide +kernel
theorem dX4_shape_99 : decode cX4_shape 99 = .ok (.getfield 194, 3) := by decide +kernel
theorem dX4_shape_102 : decode cX4_shape 102 = .ok (.getfield 167, 3) := by decide +kernel
theorem dX4_shape_105 : decode cX4_shape 105 = .ok (.ifCond .le 20, 3) := by decide +kernel
theorem dX4_shape_108 : decode cX4_shape 108 = .ok (.aload_n 0, 1) := by decide +kernel
theorem dX4_shape_109 : decode cX4_shape 109 = .ok (.getfield 22, 3) := by decide +kernel
theorem dX4_shape_112 : decode cX4_shape 112 = .ok (.getfield 197, 3) := by decide +kernel
theorem dX4_shape_115 : decode cX4_shape 115 = .ok (.aload_n 1, 1) := by decide +kernel
theorem dX4_shape_116 : decode cX4_shape 116 = .ok (.getfield 194, 3) := by decide +kernel
theorem dX4_shape_119 : decode cX4_shape 119 = .ok (.invokevirtual 82, 3) := by decide +kernel
theorem dX4_shape_122 : decode cX4_shape 122 = .ok (.goto 14, 3) := by decide +kernel
theorem dX4_shape_125 : decode cX4_shape 125 = .ok (.aload_n 0, 1) := by decide +kernel
theorem dX4_shape_126 : decode cX4_shape 126 = .ok (.aload_n 0, 1) := by decide +kernel
theorem dX4_shape_127 : decode cX4_shape 127 = .ok (.getfield 22, 3) := by decide +kernel
theorem dX4_shape_130 : decode cX4_shape 130 = .ok (.getfield 197, 3) := by decide +kernel
theorem dX4_shape_133 : decode cX4_shape 133 = .ok (.invokevirtual 198, 3) := by decide +kernel
theorem dX4_shape_136 : decode cX4_shape 136 = .ok (.aload_n 0, 1) := by decide +kernel
theorem dX4_shape_137 : decode cX4_shape 137 = .ok (.getfield 22, 3) := by decide +kernel
theorem dX4_shape_140 : decode cX4_shape 140 = .ok (.aload_n 1, 1) := by decide +kernel
theorem dX4_shape_141 : decode cX4_shape 141 = .ok (.aload_n 0, 1) := by decide +kernel
theorem dX4_shape_142 : decode cX4_shape 142 = .ok (.getfield 68, 3) := by decide +kernel
theorem dX4_shape_145 : decode cX4_shape 145 = .ok (.invokevirtual 201, 3) := by decide +kernel
theorem dX4_shape_148 : decode cX4_shape 148 = .ok (.putfield 205, 3) := by decide +kernel
theorem dX4_shape_151 : decode cX4_shape 151 = .ok (.aload_n 0, 1) := by decide +kernel
theorem dX4_shape_152 : decode cX4_shape 152 = .ok (.getfield 22, 3) := by decide +kernel
theorem dX4_shape_155 : decode cX4_shape 155 = .ok (.aload_n 0, 1) := by decide +kernel
theorem dX4_shape_156 : decode cX4_shape 156 = .ok (.getfield 68, 3) := by decide +kernel
theorem dX4_shape_159 : decode cX4_shape 159 = .ok (.putfield 158, 3) := by decide +kernel
theorem dX4_shape_162 : decode cX4_shape 162 = .ok (.aload_n 0, 1) := by decide +kernel
theorem dX4_shape_163 : decode cX4_shape 163 = .ok (.getfield 22, 3) := by decide +kernel
theorem dX4_shape_166 : decode cX4_shape 166 = .ok (.aload_n 0, 1) := by decide +kernel
theorem dX4_shape_167 : decode cX4_shape 167 = .ok (.getfield 68, 3) := by decide +kernel
theorem dX4_shape_170 : decode cX4_shape 170 = .ok (.putfield 208, 3) := by decide +kernel
theorem dX4_shape_173 : decode cX4_shape 173 = .ok (.aload_n 0, 1) := by decide +kernel
theorem dX4_shape_174 : decode cX4_shape 174 = .ok (.getfield 22, 3) := by decide +kernel
theorem dX4_shape_177 : decode cX4_shape 177 = .ok (.aload_n 0, 1) := by decide +kernel
theorem dX4_shape_178 : decode cX4_shape 178 = .ok (.getfield 59, 3) := by decide +kernel
theorem dX4_shape_181 : decode cX4_shape 181 = .ok (.iconst 0, 1) := by decide +kernel
theorem dX4_shape_182 : decode cX4_shape 182 = .ok (.iaload, 1) := by decide +kernel
theorem dX4_shape_183 : decode cX4_shape 183 = .ok (.putfield 155, 3) := by decide +kernel
theorem dX4_shape_186 : decode cX4_shape 186 = .ok (.aload_n 0, 1) := by decide +kernel
theorem dX4_shape_187 : decode cX4_shape 187 = .ok (.getfield 22, 3) := by decide +kernel
theorem dX4_shape_190 : decode cX4_shape 190 = .ok (.aload_n 1, 1) := by decide +kernel
theorem dX4_shape_191 : decode cX4_shape 191 = .ok (.getfield 211, 3) := by decide +kernel
theorem dX4_shape_194 : decode cX4_shape 194 = .ok (.putfield 214, 3) := by decide +kernel
theorem dX4_shape_197 : decode cX4_shape 197 = .ok (.aload_n 0, 1) := by decide +kernel
theorem dX4_shape_198 : decode cX4_shape 198 = .ok (.getfield 22, 3) := by decide +kernel
theorem dX4_shape_201 : decode cX4_shape 201 = .ok (.aload_n 1, 1) := by decide +kernel
theorem dX4_shape_202 : decode cX4_shape 202 = .ok (.getfield 215, 3) := by decide +kernel
theorem dX4_shape_205 : decode cX4_shape 205 = .ok (.putfield 132, 3) := by decide +kernel
theorem dX4_shape_208 : decode cX4_shape 208 = .ok (.aload_n 0, 1) := by decide +kernel
theorem dX4_shape_209 : decode cX4_shape 209 = .ok (.getfield 22, 3) := by decide +kernel
theorem dX4_shape_212 : decode cX4_shape 212 = .ok (.aload_n 1, 1) := by decide +kernel
theorem dX4_shape_213 : decode cX4_shape 213 = .ok (.getfield 216, 3) := by decide +kernel
theorem dX4_shape_216 : decode cX4_shape 216 = .ok (.putfield 219, 3) := by decide +kernel
theorem dX4_shape_219 : decode cX4_shape 219 = .ok (.aload_n 0, 1) := by decide +kernel
theorem dX4_shape_220 : decode cX4_shape 220 = .ok (.getfield 22, 3) := by decide +kernel
theorem dX4_shape_223 : decode cX4_shape 223 = .ok (.aload_n 1, 1) := by decide +kernel
theorem dX4_shape_224 : decode cX4_shape 224 = .ok (.getfield 220, 3) := by decide +kernel
theorem dX4_shape_227 : decode cX4_shape 227 = .ok (.putfield 223, 3) := by decide +kernel
theorem dX4_shape_230 : decode cX4_shape 230 = .ok (.return_, 1) := by decide +kernel
theorem dX4_takeDefaultPath_0 : decode cX4_takeDefaultPath 0 = .ok (.aload_n 0, 1) := by decide +kernel
theorem dX4_takeDefaultPath_1 : decode cX4_takeDefaultPath 1 = .ok (.getfield 44, 3) := by decide +kernel
theorem dX4_takeDefaultPath_4 : decode cX4_takeDefaultPath 4 = .ok (.getfield 224, 3) := by decide +kernel
theorem dX4_takeDefaultPath_7 : decode cX4_takeDefaultPath 7 = .ok (.getfield 167, 3) := by decide +kernel
theorem dX4_takeDefaultPath_10 : decode cX4_takeDefaultPath 10 = .ok (.iconst 1, 1) := by decide +kernel
theorem dX4_takeDefaultPath_11 : decode cX4_takeDefaultPath 11 = .ok (.isub, 1) := by decide +kernel
theorem dX4_takeDefaultPath_12 : decode cX4_takeDefaultPath 12 = .ok (.istore_n 2, 1) := by decide +kernel
theorem dX4_takeDefaultPath_13 : decode cX4_takeDefaultPath 13 = .ok (.iload_n 2, 1) := by decide +kernel
theorem dX4_takeDefaultPath_14 : decode cX4_takeDefaultPath 14 = .ok (.ifCond .le 25, 3) := by decide +kernel
theorem dX4_takeDefaultPath_17 : decode cX4_takeDefaultPath 17 = .ok (.aload_n 0, 1) := by decide +kernel
theorem dX4_takeDefaultPath_18 : decode cX4_takeDefaultPath 18 = .ok (.getfield 44, 3) := by decide +kernel
theorem dX4_takeDefaultPath_21 : decode cX4_takeDefaultPath 21 = .ok (.getfield 224, 3) := by decide +kernel
theorem dX4_takeDefaultPath_24 : decode cX4_takeDefaultPath 24 = .ok (.iload_n 2, 1) := by decide +kernel
theorem dX4_takeDefaultPath_25 : decode cX4_takeDefaultPath 25 = .ok (.invokevirtual 225, 3) := by decide +kernel
theorem dX4_takeDefaultPath_28 : decode cX4_takeDefaultPath 28 = .ok (.bipush 47, 2) := by decide +kernel
theorem dX4_takeDefaultPath_30 : decode cX4_takeDefaultPath 30 = .ok (.if_icmp .eq 9, 3) := by decide +kernel
theorem dX4_takeDefaultPath_33 : decode cX4_takeDefaultPath 33 = .ok (.iinc 2 (-1), 3) := by decide +kernel
theorem dX4_takeDefaultPath_36 : decode cX4_takeDefaultPath 36 = .ok (.goto (-23), 3) := by decide +kernel
theorem dX4_takeDefaultPath_39 : decode cX4_takeDefaultPath 39 = .ok (.aload_n 1, 1) := by decide +kernel
theorem dX4_takeDefaultPath_40 : decode cX4_takeDefaultPath 40 = .ok (.aload_n 0, 1) := by decide +kernel
theorem dX4_takeDefaultPath_41 : decode cX4_takeDefaultPath 41 = .ok (.getfield 44, 3) := by decide +kernel
theorem dX4_takeDefaultPath_44 : decode cX4_takeDefaultPath 44 = .ok (.getfield 224, 3) := by decide +kernel
theorem dX4_takeDefaultPath_47 : decode cX4_takeDefaultPath 47 = .ok (.iconst 0, 1) := by decide +kernel
theorem dX4_takeDefaultPath_48 : decode cX4_takeDefaultPath 48 = .ok (.iload_n 2, 1) := by decide +kernel
theorem dX4_takeDefaultPath_49 : decode cX4_takeDefaultPath 49 = .ok (.invokevirtual 228, 3) := by decide +kernel
theorem dX4_takeDefaultPath_52 : decode cX4_takeDefaultPath 52 = .ok (.aload_n 1, 1) := by decide +kernel
theorem dX4_takeDefaultPath_53 : decode cX4_takeDefaultPath 53 = .ok (.getfield 167, 3) := by decide +kernel
theorem dX4_takeDefaultPath_56 : decode cX4_takeDefaultPath 56 = .ok (.ifCond .ne 9, 3) := by decide +kernel
theorem dX4_takeDefaultPath_59 : decode cX4_takeDefaultPath 59 = .ok (.aload_n 1, 1) := by decide +kernel
theorem dX4_takeDefaultPath_60 : decode cX4_takeDefaultPath 60 = .ok (.bipush 47, 2) := by decide +kernel
theorem dX4_takeDefaultPath_62 : decode cX4_takeDefaultPath 62 = .ok (.invokevirtual 232, 3) := by decide +kernel
theorem dX4_takeDefaultPath_65 : decode cX4_takeDefaultPath 65 = .ok (.return_, 1) := by decide +kernel
theorem dX4_causeInProperties_0 : decode cX4_causeInProperties 0 = .ok (.aload_n 0, 1) := by decide +kernel
theorem dX4_causeInProperties_1 : decode cX4_causeInProperties 1 = .ok (.getfield 22, 3) := by decide +kernel
theorem dX4_causeInProperties_4 : decode cX4_causeInProperties 4 = .ok (.getfield 214, 3) := by decide +kernel
theorem dX4_causeInProperties_7 : decode cX4_causeInProperties 7 = .ok (.ifCond .eq 16, 3) := by decide +kernel
theorem dX4_causeInProperties_10 : decode cX4_causeInProperties 10 = .ok (.aload_n 0, 1) := by decide +kernel
theorem dX4_causeInProperties_11 : decode cX4_causeInProperties 11 = .ok (.getfield 44, 3) := by decide +kernel
theorem dX4_causeInProperties_14 : decode cX4_causeInProperties 14 = .ok (.getfield 90, 3) := by decide +kernel
theorem dX4_causeInProperties_17 : decode cX4_causeInProperties 17 = .ok (.ifCond .ne 6, 3) := by decide +kernel
theorem dX4_causeInProperties_20 : decode cX4_causeInProperties 20 = .ok (.bipush 31, 2) := by decide +kernel
theorem dX4_causeInProperties_22 : decode cX4_causeInProperties 22 = .ok (.ireturn, 1) := by decide +kernel
theorem dX4_causeInProperties_23 : decode cX4_causeInProperties 23 = .ok (.aload_n 0, 1) := by decide +kernel
theorem dX4_causeInProperties_24 : decode cX4_causeInProperties 24 = .ok (.getfield 22, 3) := by decide +kernel
theorem dX4_causeInProperties_27 : decode cX4_causeInProperties 27 = .ok (.getfield 132, 3) := by decide +kernel
theorem dX4_causeInProperties_30 : decode cX4_causeInProperties 30 = .ok (.ifCond .eq 10, 3) := by decide +kernel
theorem dX4_causeInProperties_33 : decode cX4_causeInProperties 33 = .ok (.iload_n 1, 1) := by decide +kernel
theorem dX4_causeInProperties_34 : decode cX4_causeInProperties 34 = .ok (.ifCond .eq 6, 3) := by decide +kernel
theorem dX4_causeInProperties_37 : decode cX4_causeInProperties 37 = .ok (.bipush 61, 2) := by decide +kernel
theorem dX4_causeInProperties_39 : decode cX4_causeInProperties 39 = .ok (.ireturn, 1) := by decide +kernel
theorem dX4_causeInProperties_40 : decode cX4_causeInProperties 40 = .ok (.aload_n 0, 1) := by decide +kernel
theorem dX4_causeInProperties_41 : decode cX4_causeInProperties 41 = .ok (.getfield 22, 3) := by decide +kernel
theorem dX4_causeInProperties_44 : decode cX4_causeInProperties 44 = .ok (.getfield 214, 3) := by decide +kernel
theorem dX4_causeInProperties_47 : decode cX4_causeInProperties 47 = .ok (.ifCond .ne 23, 3) := by decide +kernel
theorem dX4_causeInProperties_50 : decode cX4_causeInProperties 50 = .ok (.aload_n 0, 1) := by decide +kernel
theorem dX4_causeInProperties_51 : decode cX4_causeInProperties 51 = .ok (.getfield 44, 3) := by decide +kernel
theorem dX4_causeInProperties_54 : decode cX4_causeInProperties 54 = .ok (.getfield 90, 3) := by decide +kernel
theorem dX4_causeInProperties_57 : decode cX4_causeInProperties 57 = .ok (.ifCond .ne 13, 3) := by decide +kernel
theorem dX4_causeInProperties_60 : decode cX4_causeInProperties 60 = .ok (.aload_n 0, 1) := by decide +kernel
theorem dX4_causeInProperties_61 : decode cX4_causeInProperties 61 = .ok (.invokevirtual 235, 3) := by decide +kernel
theorem dX4_causeInProperties_64 : decode cX4_causeInProperties 64 = .ok (.ifCond .eq 6, 3) := by decide +kernel
theorem dX4_causeInProperties_67 : decode cX4_causeInProperties 67 = .ok (.bipush 32, 2) := by decide +kernel
theorem dX4_causeInProperties_69 : decode cX4_causeInProperties 69 = .ok (.ireturn, 1) := by decide +kernel
theorem dX4_causeInProperties_70 : decode cX4_causeInProperties 70 = .ok (.aload_n 0, 1) := by decide +kernel
theorem dX4_causeInProperties_71 : decode cX4_causeInProperties 71 = .ok (.getfield 22, 3) := by decide +kernel
theorem dX4_causeInProperties_74 : decode cX4_causeInProperties 74 = .ok (.getfield 219, 3) := by decide +kernel
theorem dX4_causeInProperties_77 : decode cX4_causeInProperties 77 = .ok (.ifCond .ne 16, 3) := by decide +kernel
theorem dX4_causeInProperties_80 : decode cX4_causeInProperties 80 = .ok (.aload_n 0, 1) := by decide +kernel
theorem dX4_causeInProperties_81 : decode cX4_causeInProperties 81 = .ok (.getfield 22, 3) := by decide +kernel
theorem dX4_causeInProperties_84 : decode cX4_causeInProperties 84 = .ok (.getfield 214, 3) := by decide +kernel
theorem dX4_causeInProperties_87 : decode cX4_causeInProperties 87 = .ok (.ifCond .ne 6, 3) := by decide +kernel
theorem dX4_causeInProperties_90 : decode cX4_causeInProperties 90 = .ok (.bipush 51, 2) := by decide +kernel
theorem dX4_causeInProperties_92 : decode cX4_causeInProperties 92 = .ok (.ireturn, 1) := by decide +kernel
theorem dX4_causeInProperties_93 : decode cX4_causeInProperties 93 = .ok (.aload_n 0, 1) := by decide +kernel
theorem dX4_causeInProperties_94 : decode cX4_causeInProperties 94 = .ok (.getfield 22, 3) := by decide +kernel
theorem dX4_causeInProperties_97 : decode cX4_causeInProperties 97 = .ok (.getfield 188, 3) := by decide +kernel
theorem dX4_causeInProperties_100 : decode cX4_causeInProperties 100 = .ok (.ldc 239, 2) := by decide +kernel
theorem dX4_causeInProperties_102 : decode cX4_causeInProperties 102 = .ok (.invokevirtual 241, 3) := by decide +kernel
theorem dX4_causeInProperties_105 : decode cX4_causeInProperties 105 = .ok (.ifCond .eq 16, 3) := by decide +kernel
theorem dX4_causeInProperties_108 : decode cX4_causeInProperties 108 = .ok (.aload_n 0, 1) := by decide +kernel
theorem dX4_causeInProperties_109 : decode cX4_causeInProperties 109 = .ok (.getfield 22, 3) := by decide +kernel
theorem dX4_causeInProperties_112 : decode cX4_causeInProperties 112 = .ok (.getfield 214, 3) := by decide +kernel
theorem dX4_causeInProperties_115 : decode cX4_causeInProperties 115 = .ok (.ifCond .ne 6, 3) := by decide +kernel
theorem dX4_causeInProperties_118 : decode cX4_causeInProperties 118 = .ok (.bipush 41, 2) := by decide +kernel
theorem dX4_causeInProperties_120 : decode cX4_causeInProperties 120 = .ok (.ireturn, 1) := by decide +kernel
theorem dX4_causeInProperties_121 : decode cX4_causeInProperties 121 = .ok (.aload_n 0, 1) := by decide +kernel
theorem dX4_causeInProperties_122 : decode cX4_causeInProperties 122 = .ok (.getfield 22, 3) := by decide +kernel
theorem dX4_causeInProperties_125 : decode cX4_causeInProperties 125 = .ok (.getfield 214, 3) := by decide +kernel
theorem dX4_causeInProperties_128 : decode cX4_causeInProperties 128 = .ok (.ifCond .eq 32, 3) := by decide +kernel
theorem dX4_causeInProperties_131 : decode cX4_causeInProperties 131 = .ok (.aload_n 0, 1) := by decide +kernel
theorem dX4_causeInProperties_132 : decode cX4_causeInProperties 132 = .ok (.getfield 22, 3) := by decide +kernel
theorem dX4_causeInProperties_135 : decode cX4_causeInProperties 135 = .ok (.getfield 190, 3) := by decide +kernel
theorem dX4_causeInProperties_138 : decode cX4_causeInProperties 138 = .ok (.ifCond .eq 22, 3) := by decide +kernel
theorem dX4_causeInProperties_141 : decode cX4_causeInProperties 141 = .ok (.aload_n 0, 1) := by decide +kernel
theorem dX4_causeInProperties_142 : decode cX4_causeInProperties 142 = .ok (.getfield 22, 3) := by decide +kernel
theorem dX4_causeInProperties_145 : decode cX4_causeInProperties 145 = .ok (.getfield 197, 3) := by decide +kernel
theorem dX4_causeInProperties_148 : decode cX4_causeInProperties 148 = .ok (.ldc 245, 2) := by decide +kernel
theorem dX4_causeInProperties_150 : decode cX4_causeInProperties 150 = .ok (.invokevirtual 247, 3) := by decide +kernel
theorem dX4_causeInProperties_153 : decode cX4_causeInProperties 153 = .ok (.ifCond .eq 7, 3) := by decide +kernel
theorem dX4_causeInProperties_156 : decode cX4_causeInProperties 156 = .ok (.iconst 1, 1) := by decide +kernel
theorem dX4_causeInProperties_157 : decode cX4_causeInProperties 157 = .ok (.goto 4, 3) := by decide +kernel
theorem dX4_causeInProperties_160 : decode cX4_causeInProperties 160 = .ok (.iconst 0, 1) := by decide +kernel
theorem dX4_causeInProperties_161 : decode cX4_causeInProperties 161 = .ok (.istore_n 2, 1) := by decide +kernel
theorem dX4_causeInProperties_162 : decode cX4_causeInProperties 162 = .ok (.aload_n 0, 1) := by decide +kernel
theorem dX4_causeInProperties_163 : decode cX4_causeInProperties 163 = .ok (.getfield 22, 3) := by decide +kernel
theorem dX4_causeInProperties_166 : decode cX4_causeInProperties 166 = .ok (.getfield 188, 3) := by decide +kernel
theorem dX4_causeInProperties_169 : decode cX4_causeInProperties 169 = .ok (.ldc 250, 2) := by decide +kernel
theorem dX4_causeInProperties_171 : decode cX4_causeInProperties 171 = .ok (.invokevirtual 241, 3) := by decide +kernel
theorem dX4_causeInProperties_174 : decode cX4_causeInProperties 174 = .ok (.ifCond .eq 12, 3) := by decide +kernel
theorem dX4_causeInProperties_177 : decode cX4_causeInProperties 177 = .ok (.iload_n 2, 1) := by decide +kernel
theorem dX4_causeInProperties_178 : decode cX4_causeInProperties 178 = .ok (.ifCond .ne 8, 3) := by decide +kernel
theorem dX4_causeInProperties_181 : decode cX4_causeInProperties 181 = .ok (.bipush 42, 2) := by decide +kernel
theorem dX4_causeInProperties_183 : decode cX4_causeInProperties 183 = .ok (.goto 4, 3) := by decide +kernel
theorem dX4_causeInProperties_186 : decode cX4_causeInProperties 186 = .ok (.iconst 0, 1) := by decide +kernel
theorem dX4_causeInProperties_187 : decode cX4_causeInProperties 187 = .ok (.ireturn, 1) := by decide +kernel
theorem dX4_isGuarded_0 : decode cX4_isGuarded 0 = .ok (.iconst 0, 1) := by decide +kernel
theorem dX4_isGuarded_1 : decode cX4_isGuarded 1 = .ok (.istore_n 1, 1) := by decide +kernel
theorem dX4_isGuarded_2 : decode cX4_isGuarded 2 = .ok (.iload_n 1, 1) := by decide +kernel
theorem dX4_isGuarded_3 : decode cX4_isGuarded 3 = .ok (.aload_n 0, 1) := by decide +kernel
theorem dX4_isGuarded_4 : decode cX4_isGuarded 4 = .ok (.getfield 18, 3) := by decide +kernel
theorem dX4_isGuarded_7 : decode cX4_isGuarded 7 = .ok (.if_icmp .ge 27, 3) := by decide +kernel
theorem dX4_isGuarded_10 : decode cX4_isGuarded 10 = .ok (.aload_n 0, 1) := by decide +kernel
theorem dX4_isGuarded_11 : decode cX4_isGuarded 11 = .ok (.getfield 11, 3) := by decide +kernel
theorem dX4_isGuarded_14 : decode cX4_isGuarded 14 = .ok (.iload_n 1, 1) := by decide +kernel
theorem dX4_isGuarded_15 : decode cX4_isGuarded 15 = .ok (.aaload, 1) := by decide +kernel
theorem dX4_isGuarded_16 : decode cX4_isGuarded 16 = .ok (.aload_n 0, 1) := by decide +kernel
theorem dX4_isGuarded_17 : decode cX4_isGuarded 17 = .ok (.getfield 22, 3) := by decide +kernel
theorem dX4_isGuarded_20 : decode cX4_isGuarded 20 = .ok (.invokevirtual 252, 3) := by decide +kernel
theorem dX4_isGuarded_23 : decode cX4_isGuarded 23 = .ok (.ifCond .eq 5, 3) := by decide +kernel
theorem dX4_isGuarded_26 : decode cX4_isGuarded 26 = .ok (.iconst 1, 1) := by decide +kernel
theorem dX4_isGuarded_27 : decode cX4_isGuarded 27 = .ok (.ireturn, 1) := by decide +kernel
theorem dX4_isGuarded_28 : decode cX4_isGuarded 28 = .ok (.iinc 1 1, 3) := by decide +kernel
theorem dX4_isGuarded_31 : decode cX4_isGuarded 31 = .ok (.goto (-29), 3) := by decide +kernel
theorem dX4_isGuarded_34 : decode cX4_isGuarded 34 = .ok (.iconst 0, 1) := by decide +kernel
theorem dX4_isGuarded_35 : decode cX4_isGuarded 35 = .ok (.ireturn, 1) := by decide +kernel
theorem dX4_place_0 : decode cX4_place 0 = .ok (.iconst 0, 1) := by decide +kernel
theorem dX4_place_1 : decode cX4_place 1 = .ok (.istore_n 1, 1) := by decide +kernel
theorem dX4_place_2 : decode cX4_place 2 = .ok (.iload_n 1, 1) := by decide +kernel
theorem dX4_place_3 : decode cX4_place 3 = .ok (.aload_n 0, 1) := by decide +kernel
theorem dX4_place_4 : decode cX4_place 4 = .ok (.getfield 18, 3) := by decide +kernel
theorem dX4_place_7 : decode cX4_place 7 = .ok (.if_icmp .ge 25, 3) := by decide +kernel
theorem dX4_place_10 : decode cX4_place 10 = .ok (.aload_n 0, 1) := by decide +kernel
theorem dX4_place_11 : decode cX4_place 11 = .ok (.getfield 11, 3) := by decide +kernel
theorem dX4_place_14 : decode cX4_place 14 = .ok (.iload_n 1, 1) := by decide +kernel
theorem dX4_place_15 : decode cX4_place 15 = .ok (.aaload, 1) := by decide +kernel
theorem dX4_place_16 : decode cX4_place 16 = .ok (.aload_n 0, 1) := by decide +kernel
theorem dX4_place_17 : decode cX4_place 17 = .ok (.getfield 22, 3) := by decide +kernel
theorem dX4_place_20 : decode cX4_place 20 = .ok (.invokevirtual 256, 3) := by decide +kernel
theorem dX4_place_23 : decode cX4_place 23 = .ok (.ifCond .ge 9, 3) := by decide +kernel
theorem dX4_place_26 : decode cX4_place 26 = .ok (.iinc 1 1, 3) := by decide +kernel
theorem dX4_place_29 : decode cX4_place 29 = .ok (.goto (-27), 3) := by decide +kernel
theorem dX4_place_32 : decode cX4_place 32 = .ok (.iload_n 1, 1) := by decide +kernel
theorem dX4_place_33 : decode cX4_place 33 = .ok (.ireturn, 1) := by decide +kernel
theorem dX4_isAt_0 : decode cX4_isAt 0 = .ok (.iload_n 1, 1) := by decide +kernel
theorem dX4_isAt_1 : decode cX4_isAt 1 = .ok (.aload_n 0, 1) := by decide +kernel
theorem dX4_isAt_2 : decode cX4_isAt 2 = .ok (.getfield 18, 3) := by decide +kernel
theorem dX4_isAt_5 : decode cX4_isAt 5 = .ok (.if_icmp .ge 23, 3) := by decide +kernel
theorem dX4_isAt_8 : decode cX4_isAt 8 = .ok (.aload_n 0, 1) := by decide +kernel
theorem dX4_isAt_9 : decode cX4_isAt 9 = .ok (.getfield 11, 3) := by decide +kernel
theorem dX4_isAt_12 : decode cX4_isAt 12 = .ok (.iload_n 1, 1) := by decide +kernel
theorem dX4_isAt_13 : decode cX4_isAt 13 = .ok (.aaload, 1) := by decide +kernel
theorem dX4_isAt_14 : decode cX4_isAt 14 = .ok (.aload_n 0, 1) := by decide +kernel
theorem dX4_isAt_15 : decode cX4_isAt 15 = .ok (.getfield 22, 3) := by decide +kernel
theorem dX4_isAt_18 : decode cX4_isAt 18 = .ok (.invokevirtual 256, 3) := by decide +kernel
theorem dX4_isAt_21 : decode cX4_isAt 21 = .ok (.ifCond .ne 7, 3) := by decide +kernel
theorem dX4_isAt_24 : decode cX4_isAt 24 = .ok (.iconst 1, 1) := by decide +kernel
theorem dX4_isAt_25 : decode cX4_isAt 25 = .ok (.goto 4, 3) := by decide +kernel
theorem dX4_isAt_28 : decode cX4_isAt 28 = .ok (.iconst 0, 1) := by decide +kernel
theorem dX4_isAt_29 : decode cX4_isAt 29 = .ok (.ireturn, 1) := by decide +kernel
theorem dX4_drop_0 : decode cX4_drop 0 = .ok (.iload_n 1, 1) := by decide +kernel
theorem dX4_drop_1 : decode cX4_drop 1 = .ok (.ifCond .lt 11, 3) := by decide +kernel
theorem dX4_drop_4 : decode cX4_drop 4 = .ok (.iload_n 1, 1) := by decide +kernel
theorem dX4_drop_5 : decode cX4_drop 5 = .ok (.aload_n 0, 1) := by decide +kernel
theorem dX4_drop_6 : decode cX4_drop 6 = .ok (.getfield 18, 3) := by decide +kernel
theorem dX4_drop_9 : decode cX4_drop 9 = .ok (.if_icmp .lt 4, 3) := by decide +kernel
theorem dX4_drop_12 : decode cX4_drop 12 = .ok (.return_, 1) := by decide +kernel
theorem dX4_drop_13 : decode cX4_drop 13 = .ok (.aload_n 0, 1) := by decide +kernel
theorem dX4_drop_14 : decode cX4_drop 14 = .ok (.getfield 11, 3) := by decide +kernel
theorem dX4_drop_17 : decode cX4_drop 17 = .ok (.iload_n 1, 1) := by decide +kernel
theorem dX4_drop_18 : decode cX4_drop 18 = .ok (.aaload, 1) := by decide +kernel
theorem dX4_drop_19 : decode cX4_drop 19 = .ok (.astore_n 2, 1) := by decide +kernel
theorem dX4_drop_20 : decode cX4_drop 20 = .ok (.iload_n 1, 1) := by decide +kernel
theorem dX4_drop_21 : decode cX4_drop 21 = .ok (.istore_n 3, 1) := by decide +kernel
theorem dX4_drop_22 : decode cX4_drop 22 = .ok (.iload_n 3, 1) := by decide +kernel
theorem dX4_drop_23 : decode cX4_drop 23 = .ok (.aload_n 0, 1) := by decide +kernel
theorem dX4_drop_24 : decode cX4_drop 24 = .ok (.getfield 18, 3) := by decide +kernel
theorem dX4_drop_27 : decode cX4_drop 27 = .ok (.iconst 1, 1) := by decide +kernel
theorem dX4_drop_28 : decode cX4_drop 28 = .ok (.isub, 1) := by decide +kernel
theorem dX4_drop_29 : decode cX4_drop 29 = .ok (.if_icmp .ge 23, 3) := by decide +kernel
theorem dX4_drop_32 : decode cX4_drop 32 = .ok (.aload_n 0, 1) := by decide +kernel
theorem dX4_drop_33 : decode cX4_drop 33 = .ok (.getfield 11, 3) := by decide +kernel
theorem dX4_drop_36 : decode cX4_drop 36 = .ok (.iload_n 3, 1) := by decide +kernel
theorem dX4_drop_37 : decode cX4_drop 37 = .ok (.aload_n 0, 1) := by decide +kernel
theorem dX4_drop_38 : decode cX4_drop 38 = .ok (.getfield 11, 3) := by decide +kernel
theorem dX4_drop_41 : decode cX4_drop 41 = .ok (.iload_n 3, 1) := by decide +kernel
theorem dX4_drop_42 : decode cX4_drop 42 = .ok (.iconst 1, 1) := by decide +kernel
theorem dX4_drop_43 : decode cX4_drop 43 = .ok (.iadd, 1) := by decide +kernel
theorem dX4_drop_44 : decode cX4_drop 44 = .ok (.aaload, 1) := by decide +kernel
theorem dX4_drop_45 : decode cX4_drop 45 = .ok (.aastore, 1) := by decide +kernel
theorem dX4_drop_46 : decode cX4_drop 46 = .ok (.iinc 3 1, 3) := by decide +kernel
theorem dX4_drop_49 : decode cX4_drop 49 = .ok (.goto (-27), 3) := by decide +kernel
theorem dX4_drop_52 : decode cX4_drop 52 = .ok (.aload_n 0, 1) := by decide +kernel
theorem dX4_drop_53 : decode cX4_drop 53 = .ok (.getfield 11, 3) := by decide +kernel
theorem dX4_drop_56 : decode cX4_drop 56 = .ok (.aload_n 0, 1) := by decide +kernel
theorem dX4_drop_57 : decode cX4_drop 57 = .ok (.getfield 18, 3) := by decide +kernel
theorem dX4_drop_60 : decode cX4_drop 60 = .ok (.iconst 1, 1) := by decide +kernel
theorem dX4_drop_61 : decode cX4_drop 61 = .ok (.isub, 1) := by decide +kernel
theorem dX4_drop_62 : decode cX4_drop 62 = .ok (.aload_n 2, 1) := by decide +kernel
theorem dX4_drop_63 : decode cX4_drop 63 = .ok (.aastore, 1) := by decide +kernel
theorem dX4_drop_64 : decode cX4_drop 64 = .ok (.aload_n 0, 1) := by decide +kernel
theorem dX4_drop_65 : decode cX4_drop 65 = .ok (.dup, 1) := by decide +kernel
theorem dX4_drop_66 : decode cX4_drop 66 = .ok (.getfield 18, 3) := by decide +kernel
theorem dX4_drop_69 : decode cX4_drop 69 = .ok (.iconst 1, 1) := by decide +kernel
theorem dX4_drop_70 : decode cX4_drop 70 = .ok (.isub, 1) := by decide +kernel
theorem dX4_drop_71 : decode cX4_drop 71 = .ok (.putfield 18, 3) := by decide +kernel
theorem dX4_drop_74 : decode cX4_drop 74 = .ok (.return_, 1) := by decide +kernel
theorem dX4_evict_0 : decode cX4_evict 0 = .ok (.aload_n 0, 1) := by decide +kernel
theorem dX4_evict_1 : decode cX4_evict 1 = .ok (.aload_n 0, 1) := by decide +kernel
theorem dX4_evict_2 : decode cX4_evict 2 = .ok (.getfield 22, 3) := by decide +kernel
theorem dX4_evict_5 : decode cX4_evict 5 = .ok (.getfield 193, 3) := by decide +kernel
theorem dX4_evict_8 : decode cX4_evict 8 = .ok (.invokevirtual 260, 3) := by decide +kernel
theorem dX4_evict_11 : decode cX4_evict 11 = .ok (.aload_n 0, 1) := by decide +kernel
theorem dX4_evict_12 : decode cX4_evict 12 = .ok (.getfield 56, 3) := by decide +kernel
theorem dX4_evict_15 : decode cX4_evict 15 = .ok (.iconst 0, 1) := by decide +kernel
theorem dX4_evict_16 : decode cX4_evict 16 = .ok (.iaload, 1) := by decide +kernel
theorem dX4_evict_17 : decode cX4_evict 17 = .ok (.isub, 1) := by decide +kernel
theorem dX4_evict_18 : decode cX4_evict 18 = .ok (.istore_n 1, 1) := by decide +kernel
theorem dX4_evict_19 : decode cX4_evict 19 = .ok (.iload_n 1, 1) := by decide +kernel
theorem dX4_evict_20 : decode cX4_evict 20 = .ok (.ifCond .le 31, 3) := by decide +kernel
theorem dX4_evict_23 : decode cX4_evict 23 = .ok (.aload_n 0, 1) := by decide +kernel
theorem dX4_evict_24 : decode cX4_evict 24 = .ok (.aload_n 0, 1) := by decide +kernel
theorem dX4_evict_25 : decode cX4_evict 25 = .ok (.aload_n 0, 1) := by decide +kernel
theorem dX4_evict_26 : decode cX4_evict 26 = .ok (.getfield 22, 3) := by decide +kernel
theorem dX4_evict_29 : decode cX4_evict 29 = .ok (.getfield 193, 3) := by decide +kernel
theorem dX4_evict_32 : decode cX4_evict 32 = .ok (.aload_n 0, 1) := by decide +kernel
theorem dX4_evict_33 : decode cX4_evict 33 = .ok (.getfield 22, 3) := by decide +kernel
theorem dX4_evict_36 : decode cX4_evict 36 = .ok (.getfield 155, 3) := by decide +kernel
theorem dX4_evict_39 : decode cX4_evict 39 = .ok (.invokevirtual 263, 3) := by decide +kernel
theorem dX4_evict_42 : decode cX4_evict 42 = .ok (.invokevirtual 267, 3) := by decide +kernel
theorem dX4_evict_45 : decode cX4_evict 45 = .ok (.iinc 1 (-1), 3) := by decide +kernel
theorem dX4_evict_48 : decode cX4_evict 48 = .ok (.goto (-29), 3) := by decide +kernel
theorem dX4_evict_51 : decode cX4_evict 51 = .ok (.aload_n 0, 1) := by decide +kernel
theorem dX4_evict_52 : decode cX4_evict 52 = .ok (.getfield 18, 3) := by decide +kernel
theorem dX4_evict_55 : decode cX4_evict 55 = .ok (.aload_n 0, 1) := by decide +kernel
theorem dX4_evict_56 : decode cX4_evict 56 = .ok (.getfield 56, 3) := by decide +kernel
theorem dX4_evict_59 : decode cX4_evict 59 = .ok (.iconst 1, 1) := by decide +kernel
theorem dX4_evict_60 : decode cX4_evict 60 = .ok (.iaload, 1) := by decide +kernel
theorem dX4_evict_61 : decode cX4_evict 61 = .ok (.isub, 1) := by decide +kernel
theorem dX4_evict_62 : decode cX4_evict 62 = .ok (.istore_n 1, 1) := by decide +kernel
theorem dX4_evict_63 : decode cX4_evict 63 = .ok (.iload_n 1, 1) := by decide +kernel
theorem dX4_evict_64 : decode cX4_evict 64 = .ok (.ifCond .le 24, 3) := by decide +kernel
theorem dX4_evict_67 : decode cX4_evict 67 = .ok (.aload_n 0, 1) := by decide +kernel
theorem dX4_evict_68 : decode cX4_evict 68 = .ok (.aload_n 0, 1) := by decide +kernel
theorem dX4_evict_69 : decode cX4_evict 69 = .ok (.aload_n 0, 1) := by decide +kernel
theorem dX4_evict_70 : decode cX4_evict 70 = .ok (.getfield 22, 3) := by decide +kernel
theorem dX4_evict_73 : decode cX4_evict 73 = .ok (.getfield 155, 3) := by decide +kernel
theorem dX4_evict_76 : decode cX4_evict 76 = .ok (.invokevirtual 270, 3) := by decide +kernel
theorem dX4_evict_79 : decode cX4_evict 79 = .ok (.invokevirtual 267, 3) := by decide +kernel
theorem dX4_evict_82 : decode cX4_evict 82 = .ok (.iinc 1 (-1), 3) := by decide +kernel
theorem dX4_evict_85 : decode cX4_evict 85 = .ok (.goto (-22), 3) := by decide +kernel
theorem dX4_evict_88 : decode cX4_evict 88 = .ok (.return_, 1) := by decide +kernel
theorem dX4_dropVictim_0 : decode cX4_dropVictim 0 = .ok (.iload_n 1, 1) := by decide +kernel
theorem dX4_dropVictim_1 : decode cX4_dropVictim 1 = .ok (.ifCond .lt 18, 3) := by decide +kernel
theorem dX4_dropVictim_4 : decode cX4_dropVictim 4 = .ok (.aload_n 0, 1) := by decide +kernel
theorem dX4_dropVictim_5 : decode cX4_dropVictim 5 = .ok (.iload_n 1, 1) := by decide +kernel
theorem dX4_dropVictim_6 : decode cX4_dropVictim 6 = .ok (.invokevirtual 152, 3) := by decide +kernel
theorem dX4_dropVictim_9 : decode cX4_dropVictim 9 = .ok (.aload_n 0, 1) := by decide +kernel
theorem dX4_dropVictim_10 : decode cX4_dropVictim 10 = .ok (.getfield 59, 3) := by decide +kernel
theorem dX4_dropVictim_13 : decode cX4_dropVictim 13 = .ok (.iconst 4, 1) := by decide +kernel
theorem dX4_dropVictim_14 : decode cX4_dropVictim 14 = .ok (.dup2, 1) := by decide +kernel
theorem dX4_dropVictim_15 : decode cX4_dropVictim 15 = .ok (.iaload, 1) := by decide +kernel
theorem dX4_dropVictim_16 : decode cX4_dropVictim 16 = .ok (.iconst 1, 1) := by decide +kernel
theorem dX4_dropVictim_17 : decode cX4_dropVictim 17 = .ok (.iadd, 1) := by decide +kernel
theorem dX4_dropVictim_18 : decode cX4_dropVictim 18 = .ok (.iastore, 1) := by decide +kernel
theorem dX4_dropVictim_19 : decode cX4_dropVictim 19 = .ok (.return_, 1) := by decide +kernel
theorem dX4_sizeOfSite_0 : decode cX4_sizeOfSite 0 = .ok (.iconst 0, 1) := by decide +kernel
theorem dX4_sizeOfSite_1 : decode cX4_sizeOfSite 1 = .ok (.istore_n 2, 1) := by decide +kernel
theorem dX4_sizeOfSite_2 : decode cX4_sizeOfSite 2 = .ok (.iconst 0, 1) := by decide +kernel
theorem dX4_sizeOfSite_3 : decode cX4_sizeOfSite 3 = .ok (.istore_n 3, 1) := by decide +kernel
theorem dX4_sizeOfSite_4 : decode cX4_sizeOfSite 4 = .ok (.iload_n 3, 1) := by decide +kernel
theorem dX4_sizeOfSite_5 : decode cX4_sizeOfSite 5 = .ok (.aload_n 0, 1) := by decide +kernel
theorem dX4_sizeOfSite_6 : decode cX4_sizeOfSite 6 = .ok (.getfield 18, 3) := by decide +kernel
theorem dX4_sizeOfSite_9 : decode cX4_sizeOfSite 9 = .ok (.if_icmp .ge 32, 3) := by decide +kernel
theorem dX4_sizeOfSite_12 : decode cX4_sizeOfSite 12 = .ok (.aload_n 0, 1) := by decide +kernel
theorem dX4_sizeOfSite_13 : decode cX4_sizeOfSite 13 = .ok (.getfield 33, 3) := by decide +kernel
theorem dX4_sizeOfSite_16 : decode cX4_sizeOfSite 16 = .ok (.aload_n 0, 1) := by decide +kernel
theorem dX4_sizeOfSite_17 : decode cX4_sizeOfSite 17 = .ok (.getfield 11, 3) := by decide +kernel
theorem dX4_sizeOfSite_20 : decode cX4_sizeOfSite 20 = .ok (.iload_n 3, 1) := by decide +kernel
theorem dX4_sizeOfSite_21 : decode cX4_sizeOfSite 21 = .ok (.aaload, 1) := by decide +kernel
theorem dX4_sizeOfSite_22 : decode cX4_sizeOfSite 22 = .ok (.getfield 193, 3) := by decide +kernel
theorem dX4_sizeOfSite_25 : decode cX4_sizeOfSite 25 = .ok (.aload_n 1, 1) := by decide +kernel
theorem dX4_sizeOfSite_26 : decode cX4_sizeOfSite 26 = .ok (.invokevirtual 96, 3) := by decide +kernel
theorem dX4_sizeOfSite_29 : decode cX4_sizeOfSite 29 = .ok (.ifCond .eq 6, 3) := by decide +kernel
theorem dX4_sizeOfSite_32 : decode cX4_sizeOfSite 32 = .ok (.iinc 2 1, 3) := by decide +kernel
theorem dX4_sizeOfSite_35 : decode cX4_sizeOfSite 35 = .ok (.iinc 3 1, 3) := by decide +kernel
theorem dX4_sizeOfSite_38 : decode cX4_sizeOfSite 38 = .ok (.goto (-34), 3) := by decide +kernel
theorem dX4_sizeOfSite_41 : decode cX4_sizeOfSite 41 = .ok (.iload_n 2, 1) := by decide +kernel
theorem dX4_sizeOfSite_42 : decode cX4_sizeOfSite 42 = .ok (.ireturn, 1) := by decide +kernel
theorem dX4_victimOfSite_0 : decode cX4_victimOfSite 0 = .ok (.iconst (-1), 1) := by decide +kernel
theorem dX4_victimOfSite_1 : decode cX4_victimOfSite 1 = .ok (.istore_n 3, 1) := by decide +kernel
theorem dX4_victimOfSite_2 : decode cX4_victimOfSite 2 = .ok (.iconst 0, 1) := by decide +kernel
theorem dX4_victimOfSite_3 : decode cX4_victimOfSite 3 = .ok (.istore 4, 2) := by decide +kernel
theorem dX4_victimOfSite_5 : decode cX4_victimOfSite 5 = .ok (.iload 4, 2) := by decide +kernel
theorem dX4_victimOfSite_7 : decode cX4_victimOfSite 7 = .ok (.aload_n 0, 1) := by decide +kernel
theorem dX4_victimOfSite_8 : decode cX4_victimOfSite 8 = .ok (.getfield 18, 3) := by decide +kernel
theorem dX4_victimOfSite_11 : decode cX4_victimOfSite 11 = .ok (.if_icmp .ge 39, 3) := by decide +kernel
theorem dX4_victimOfSite_14 : decode cX4_victimOfSite 14 = .ok (.aload_n 0, 1) := by decide +kernel
theorem dX4_victimOfSite_15 : decode cX4_victimOfSite 15 = .ok (.getfield 33, 3) := by decide +kernel
theorem dX4_victimOfSite_18 : decode cX4_victimOfSite 18 = .ok (.aload_n 0, 1) := by decide +kernel
theorem dX4_victimOfSite_19 : decode cX4_victimOfSite 19 = .ok (.getfield 11, 3) := by decide +kernel
theorem dX4_victimOfSite_22 : decode cX4_victimOfSite 22 = .ok (.iload 4, 2) := by decide +kernel
theorem dX4_victimOfSite_24 : decode cX4_victimOfSite 24 = .ok (.aaload, 1) := by decide +kernel
theorem dX4_victimOfSite_25 : decode cX4_victimOfSite 25 = .ok (.getfield 193, 3) := by decide +kernel
theorem dX4_victimOfSite_28 : decode cX4_victimOfSite 28 = .ok (.aload_n 1, 1) := by decide +kernel
theorem dX4_victimOfSite_29 : decode cX4_victimOfSite 29 = .ok (.invokevirtual 96, 3) := by decide +kernel
theorem dX4_victimOfSite_32 : decode cX4_victimOfSite 32 = .ok (.ifCond .eq 12, 3) := by decide +kernel
theorem dX4_victimOfSite_35 : decode cX4_victimOfSite 35 = .ok (.aload_n 0, 1) := by decide +kernel
theorem dX4_victimOfSite_36 : decode cX4_victimOfSite 36 = .ok (.iload_n 3, 1) := by decide +kernel
theorem dX4_victimOfSite_37 : decode cX4_victimOfSite 37 = .ok (.iload 4, 2) := by decide +kernel
theorem dX4_victimOfSite_39 : decode cX4_victimOfSite 39 = .ok (.iload_n 2, 1) := by decide +kernel
theorem dX4_victimOfSite_40 : decode cX4_victimOfSite 40 = .ok (.invokevirtual 273, 3) := by decide +kernel
theorem dX4_victimOfSite_43 : decode cX4_victimOfSite 43 = .ok (.istore_n 3, 1) := by decide +kernel
theorem dX4_victimOfSite_44 : decode cX4_victimOfSite 44 = .ok (.iinc 4 1, 3) := by decide +kernel
theorem dX4_victimOfSite_47 : decode cX4_victimOfSite 47 = .ok (.goto (-42), 3) := by decide +kernel
theorem dX4_victimOfSite_50 : decode cX4_victimOfSite 50 = .ok (.iload_n 3, 1) := by decide +kernel
theorem dX4_victimOfSite_51 : decode cX4_victimOfSite 51 = .ok (.ireturn, 1) := by decide +kernel
theorem dX4_victimOfAll_0 : decode cX4_victimOfAll 0 = .ok (.iconst (-1), 1) := by decide +kernel
theorem dX4_victimOfAll_1 : decode cX4_victimOfAll 1 = .ok (.istore_n 2, 1) := by decide +kernel
theorem dX4_victimOfAll_2 : decode cX4_victimOfAll 2 = .ok (.iconst 0, 1) := by decide +kernel
theorem dX4_victimOfAll_3 : decode cX4_victimOfAll 3 = .ok (.istore_n 3, 1) := by decide +kernel
theorem dX4_victimOfAll_4 : decode cX4_victimOfAll 4 = .ok (.iload_n 3, 1) := by decide +kernel
theorem dX4_victimOfAll_5 : decode cX4_victimOfAll 5 = .ok (.aload_n 0, 1) := by decide +kernel
theorem dX4_victimOfAll_6 : decode cX4_victimOfAll 6 = .ok (.getfield 18, 3) := by decide +kernel
theorem dX4_victimOfAll_9 : decode cX4_victimOfAll 9 = .ok (.if_icmp .ge 17, 3) := by decide +kernel
theorem dX4_victimOfAll_12 : decode cX4_victimOfAll 12 = .ok (.aload_n 0, 1) := by decide +kernel
theorem dX4_victimOfAll_13 : decode cX4_victimOfAll 13 = .ok (.iload_n 2, 1) := by decide +kernel
theorem dX4_victimOfAll_14 : decode cX4_victimOfAll 14 = .ok (.iload_n 3, 1) := by decide +kernel
theorem dX4_victimOfAll_15 : decode cX4_victimOfAll 15 = .ok (.iload_n 1, 1) := by decide +kernel
theorem dX4_victimOfAll_16 : decode cX4_victimOfAll 16 = .ok (.invokevirtual 273, 3) := by decide +kernel
theorem dX4_victimOfAll_19 : decode cX4_victimOfAll 19 = .ok (.istore_n 2, 1) := by decide +kernel
theorem dX4_victimOfAll_20 : decode cX4_victimOfAll 20 = .ok (.iinc 3 1, 3) := by decide +kernel
theorem dX4_victimOfAll_23 : decode cX4_victimOfAll 23 = .ok (.goto (-19), 3) := by decide +kernel
theorem dX4_victimOfAll_26 : decode cX4_victimOfAll 26 = .ok (.iload_n 2, 1) := by decide +kernel
theorem dX4_victimOfAll_27 : decode cX4_victimOfAll 27 = .ok (.ireturn, 1) := by decide +kernel
theorem dX4_victimOf_0 : decode cX4_victimOf 0 = .ok (.aload_n 0, 1) := by decide +kernel
theorem dX4_victimOf_1 : decode cX4_victimOf 1 = .ok (.getfield 11, 3) := by decide +kernel
theorem dX4_victimOf_4 : decode cX4_victimOf 4 = .ok (.iload_n 2, 1) := by decide +kernel
theorem dX4_victimOf_5 : decode cX4_victimOf 5 = .ok (.aaload, 1) := by decide +kernel
theorem dX4_victimOf_6 : decode cX4_victimOf 6 = .ok (.getfield 155, 3) := by decide +kernel
theorem dX4_victimOf_9 : decode cX4_victimOf 9 = .ok (.iload_n 3, 1) := by decide +kernel
theorem dX4_victimOf_10 : decode cX4_victimOf 10 = .ok (.if_icmp .ne 5, 3) := by decide +kernel
theorem dX4_victimOf_13 : decode cX4_victimOf 13 = .ok (.iload_n 1, 1) := by decide +kernel
theorem dX4_victimOf_14 : decode cX4_victimOf 14 = .ok (.ireturn, 1) := by decide +kernel
theorem dX4_victimOf_15 : decode cX4_victimOf 15 = .ok (.iload_n 1, 1) := by decide +kernel
theorem dX4_victimOf_16 : decode cX4_victimOf 16 = .ok (.ifCond .lt 25, 3) := by decide +kernel
theorem dX4_victimOf_19 : decode cX4_victimOf 19 = .ok (.aload_n 0, 1) := by decide +kernel
theorem dX4_victimOf_20 : decode cX4_victimOf 20 = .ok (.getfield 11, 3) := by decide +kernel
theorem dX4_victimOf_23 : decode cX4_victimOf 23 = .ok (.iload_n 2, 1) := by decide +kernel
theorem dX4_victimOf_24 : decode cX4_victimOf 24 = .ok (.aaload, 1) := by decide +kernel
theorem dX4_victimOf_25 : decode cX4_victimOf 25 = .ok (.aload_n 0, 1) := by decide +kernel
theorem dX4_victimOf_26 : decode cX4_victimOf 26 = .ok (.getfield 11, 3) := by decide +kernel
theorem dX4_victimOf_29 : decode cX4_victimOf 29 = .ok (.iload_n 1, 1) := by decide +kernel
theorem dX4_victimOf_30 : decode cX4_victimOf 30 = .ok (.aaload, 1) := by decide +kernel
theorem dX4_victimOf_31 : decode cX4_victimOf 31 = .ok (.aload_n 0, 1) := by decide +kernel
theorem dX4_victimOf_32 : decode cX4_victimOf 32 = .ok (.getfield 62, 3) := by decide +kernel
theorem dX4_victimOf_35 : decode cX4_victimOf 35 = .ok (.invokevirtual 277, 3) := by decide +kernel
theorem dX4_victimOf_38 : decode cX4_victimOf 38 = .ok (.ifCond .eq 7, 3) := by decide +kernel
theorem dX4_victimOf_41 : decode cX4_victimOf 41 = .ok (.iload_n 2, 1) := by decide +kernel
theorem dX4_victimOf_42 : decode cX4_victimOf 42 = .ok (.goto 4, 3) := by decide +kernel
theorem dX4_victimOf_45 : decode cX4_victimOf 45 = .ok (.iload_n 1, 1) := by decide +kernel
theorem dX4_victimOf_46 : decode cX4_victimOf 46 = .ok (.ireturn, 1) := by decide +kernel
theorem dX4_goes_0 : decode cX4_goes 0 = .ok (.aload_n 0, 1) := by decide +kernel
theorem dX4_goes_1 : decode cX4_goes 1 = .ok (.getfield 44, 3) := by decide +kernel
theorem dX4_goes_4 : decode cX4_goes 4 = .ok (.getfield 93, 3) := by decide +kernel
theorem dX4_goes_7 : decode cX4_goes 7 = .ok (.astore 5, 2) := by decide +kernel
theorem dX4_goes_9 : decode cX4_goes 9 = .ok (.aload_n 1, 1) := by decide +kernel
theorem dX4_goes_10 : decode cX4_goes 10 = .ok (.getfield 190, 3) := by decide +kernel
theorem dX4_goes_13 : decode cX4_goes 13 = .ok (.ifCond .eq 18, 3) := by decide +kernel
theorem dX4_goes_16 : decode cX4_goes 16 = .ok (.aload 5, 2) := by decide +kernel
theorem dX4_goes_18 : decode cX4_goes 18 = .ok (.aload_n 1, 1) := by decide +kernel
theorem dX4_goes_19 : decode cX4_goes 19 = .ok (.getfield 193, 3) := by decide +kernel
theorem dX4_goes_22 : decode cX4_goes 22 = .ok (.invokevirtual 182, 3) := by decide +kernel
theorem dX4_goes_25 : decode cX4_goes 25 = .ok (.ifCond .ne 20, 3) := by decide +kernel
theorem dX4_goes_28 : decode cX4_goes 28 = .ok (.goto 15, 3) := by decide +kernel
theorem dX4_goes_31 : decode cX4_goes 31 = .ok (.aload 5, 2) := by decide +kernel
theorem dX4_goes_33 : decode cX4_goes 33 = .ok (.aload_n 1, 1) := by decide +kernel
theorem dX4_goes_34 : decode cX4_goes 34 = .ok (.getfield 193, 3) := by decide +kernel
theorem dX4_goes_37 : decode cX4_goes 37 = .ok (.invokevirtual 185, 3) := by decide +kernel
theorem dX4_goes_40 : decode cX4_goes 40 = .ok (.ifCond .ne 5, 3) := by decide +kernel
theorem dX4_goes_43 : decode cX4_goes 43 = .ok (.iconst 0, 1) := by decide +kernel
theorem dX4_goes_44 : decode cX4_goes 44 = .ok (.ireturn, 1) := by decide +kernel
theorem dX4_goes_45 : decode cX4_goes 45 = .ok (.aload_n 0, 1) := by decide +kernel
theorem dX4_goes_46 : decode cX4_goes 46 = .ok (.getfield 44, 3) := by decide +kernel
theorem dX4_goes_49 : decode cX4_goes 49 = .ok (.getfield 224, 3) := by decide +kernel
theorem dX4_goes_52 : decode cX4_goes 52 = .ok (.aload_n 1, 1) := by decide +kernel
theorem dX4_goes_53 : decode cX4_goes 53 = .ok (.getfield 197, 3) := by decide +kernel
theorem dX4_goes_56 : decode cX4_goes 56 = .ok (.invokevirtual 281, 3) := by decide +kernel
theorem dX4_goes_59 : decode cX4_goes 59 = .ok (.ifCond .ne 5, 3) := by decide +kernel
theorem dX4_goes_62 : decode cX4_goes 62 = .ok (.iconst 0, 1) := by decide +kernel
theorem dX4_goes_63 : decode cX4_goes 63 = .ok (.ireturn, 1) := by decide +kernel
theorem dX4_goes_64 : decode cX4_goes 64 = .ok (.aload_n 1, 1) := by decide +kernel
theorem dX4_goes_65 : decode cX4_goes 65 = .ok (.getfield 214, 3) := by decide +kernel
theorem dX4_goes_68 : decode cX4_goes 68 = .ok (.ifCond .eq 13, 3) := by decide +kernel
theorem dX4_goes_71 : decode cX4_goes 71 = .ok (.aload_n 0, 1) := by decide +kernel
theorem dX4_goes_72 : decode cX4_goes 72 = .ok (.getfield 44, 3) := by decide +kernel
theorem dX4_goes_75 : decode cX4_goes 75 = .ok (.getfield 90, 3) := by decide +kernel
theorem dX4_goes_78 : decode cX4_goes 78 = .ok (.ifCond .eq 15, 3) := by decide +kernel
theorem dX4_goes_81 : decode cX4_goes 81 = .ok (.aload_n 1, 1) := by decide +kernel
theorem dX4_goes_82 : decode cX4_goes 82 = .ok (.getfield 132, 3) := by decide +kernel
theorem dX4_goes_85 : decode cX4_goes 85 = .ok (.ifCond .eq 10, 3) := by decide +kernel
theorem dX4_goes_88 : decode cX4_goes 88 = .ok (.iload 4, 2) := by decide +kernel
theorem dX4_goes_90 : decode cX4_goes 90 = .ok (.ifCond .eq 5, 3) := by decide +kernel
theorem dX4_goes_93 : decode cX4_goes 93 = .ok (.iconst 0, 1) := by decide +kernel
theorem dX4_goes_94 : decode cX4_goes 94 = .ok (.ireturn, 1) := by decide +kernel
theorem dX4_goes_95 : decode cX4_goes 95 = .ok (.iload_n 2, 1) := by decide +kernel
theorem dX4_goes_96 : decode cX4_goes 96 = .ok (.ifCond .eq 22, 3) := by decide +kernel
theorem dX4_goes_99 : decode cX4_goes 99 = .ok (.aload_n 1, 1) := by decide +kernel
theorem dX4_goes_100 : decode cX4_goes 100 = .ok (.getfield 219, 3) := by decide +kernel
theorem dX4_goes_103 : decode cX4_goes 103 = .ok (.ifCond .eq 15, 3) := by decide +kernel
theorem dX4_goes_106 : decode cX4_goes 106 = .ok (.aload_n 1, 1) := by decide +kernel
theorem dX4_goes_107 : decode cX4_goes 107 = .ok (.getfield 219, 3) := by decide +kernel
theorem dX4_goes_110 : decode cX4_goes 110 = .ok (.iconst 1, 1) := by decide +kernel
theorem dX4_goes_111 : decode cX4_goes 111 = .ok (.if_icmp .ne 11, 3) := by decide +kernel
theorem dX4_goes_114 : decode cX4_goes 114 = .ok (.iload_n 3, 1) := by decide +kernel
theorem dX4_goes_115 : decode cX4_goes 115 = .ok (.ifCond .eq 7, 3) := by decide +kernel
theorem dX4_goes_118 : decode cX4_goes 118 = .ok (.iconst 1, 1) := by decide +kernel
theorem dX4_goes_119 : decode cX4_goes 119 = .ok (.goto 4, 3) := by decide +kernel
theorem dX4_goes_122 : decode cX4_goes 122 = .ok (.iconst 0, 1) := by decide +kernel
theorem dX4_goes_123 : decode cX4_goes 123 = .ok (.ireturn, 1) := by decide +kernel
theorem dX4_writeHeader_0 : decode cX4_writeHeader 0 = .ok (.iconst 0, 1) := by decide +kernel
theorem dX4_writeHeader_1 : decode cX4_writeHeader 1 = .ok (.istore 4, 2) := by decide +kernel
theorem dX4_writeHeader_3 : decode cX4_writeHeader 3 = .ok (.iconst 0, 1) := by decide +kernel
theorem dX4_writeHeader_4 : decode cX4_writeHeader 4 = .ok (.istore 5, 2) := by decide +kernel
theorem dX4_writeHeader_6 : decode cX4_writeHeader 6 = .ok (.iload 5, 2) := by decide +kernel
theorem dX4_writeHeader_8 : decode cX4_writeHeader 8 = .ok (.aload_n 0, 1) := by decide +kernel
theorem dX4_writeHeader_9 : decode cX4_writeHeader 9 = .ok (.getfield 18, 3) := by decide +kernel
theorem dX4_writeHeader_12 : decode cX4_writeHeader 12 = .ok (.if_icmp .ge 37, 3) := by decide +kernel
theorem dX4_writeHeader_15 : decode cX4_writeHeader 15 = .ok (.aload_n 0, 1) := by decide +kernel
theorem dX4_writeHeader_16 : decode cX4_writeHeader 16 = .ok (.aload_n 0, 1) := by decide +kernel
theorem dX4_writeHeader_17 : decode cX4_writeHeader 17 = .ok (.getfield 11, 3) := by decide +kernel
theorem dX4_writeHeader_20 : decode cX4_writeHeader 20 = .ok (.iload 5, 2) := by decide +kernel
theorem dX4_writeHeader_22 : decode cX4_writeHeader 22 = .ok (.aaload, 1) := by decide +kernel
theorem dX4_writeHeader_23 : decode cX4_writeHeader 23 = .ok (.iload_n 1, 1) := by decide +kernel
theorem dX4_writeHeader_24 : decode cX4_writeHeader 24 = .ok (.iload_n 2, 1) := by decide +kernel
theorem dX4_writeHeader_25 : decode cX4_writeHeader 25 = .ok (.iload_n 3, 1) := by decide +kernel
theorem dX4_writeHeader_26 : decode cX4_writeHeader 26 = .ok (.invokevirtual 284, 3) := by decide +kernel
theorem dX4_writeHeader_29 : decode cX4_writeHeader 29 = .ok (.ifCond .eq 14, 3) := by decide +kernel
theorem dX4_writeHeader_32 : decode cX4_writeHeader 32 = .ok (.aload_n 0, 1) := by decide +kernel
theorem dX4_writeHeader_33 : decode cX4_writeHeader 33 = .ok (.iload 5, 2) := by decide +kernel
theorem dX4_writeHeader_35 : decode cX4_writeHeader 35 = .ok (.iload 4, 2) := by decide +kernel
theorem dX4_writeHeader_37 : decode cX4_writeHeader 37 = .ok (.invokevirtual 288, 3) := by decide +kernel
theorem dX4_writeHeader_40 : decode cX4_writeHeader 40 = .ok (.iinc 4 1, 3) := by decide +kernel
theorem dX4_writeHeader_43 : decode cX4_writeHeader 43 = .ok (.iinc 5 1, 3) := by decide +kernel
theorem dX4_writeHeader_46 : decode cX4_writeHeader 46 = .ok (.goto (-40), 3) := by decide +kernel
theorem dX4_writeHeader_49 : decode cX4_writeHeader 49 = .ok (.aload_n 0, 1) := by decide +kernel
theorem dX4_writeHeader_50 : decode cX4_writeHeader 50 = .ok (.getfield 52, 3) := by decide +kernel
theorem dX4_writeHeader_53 : decode cX4_writeHeader 53 = .ok (.invokevirtual 292, 3) := by decide +kernel
theorem dX4_writeHeader_56 : decode cX4_writeHeader 56 = .ok (.iconst 0, 1) := by decide +kernel
theorem dX4_writeHeader_57 : decode cX4_writeHeader 57 = .ok (.istore 5, 2) := by decide +kernel
theorem dX4_writeHeader_59 : decode cX4_writeHeader 59 = .ok (.iload 5, 2) := by decide +kernel
theorem dX4_writeHeader_61 : decode cX4_writeHeader 61 = .ok (.iload 4, 2) := by decide +kernel
theorem dX4_writeHeader_63 : decode cX4_writeHeader 63 = .ok (.if_icmp .ge 25, 3) := by decide +kernel
theorem dX4_writeHeader_66 : decode cX4_writeHeader 66 = .ok (.aload_n 0, 1) := by decide +kernel
theorem dX4_writeHeader_67 : decode cX4_writeHeader 67 = .ok (.aload_n 0, 1) := by decide +kernel
theorem dX4_writeHeader_68 : decode cX4_writeHeader 68 = .ok (.getfield 11, 3) := by decide +kernel
theorem dX4_writeHeader_71 : decode cX4_writeHeader 71 = .ok (.aload_n 0, 1) := by decide +kernel
theorem dX4_writeHeader_72 : decode cX4_writeHeader 72 = .ok (.getfield 26, 3) := by decide +kernel
theorem dX4_writeHeader_75 : decode cX4_writeHeader 75 = .ok (.iload 5, 2) := by decide +kernel
theorem dX4_writeHeader_77 : decode cX4_writeHeader 77 = .ok (.iaload, 1) := by decide +kernel
theorem dX4_writeHeader_78 : decode cX4_writeHeader 78 = .ok (.aaload, 1) := by decide +kernel
theorem dX4_writeHeader_79 : decode cX4_writeHeader 79 = .ok (.invokevirtual 295, 3) := by decide +kernel
theorem dX4_writeHeader_82 : decode cX4_writeHeader 82 = .ok (.iinc 5 1, 3) := by decide +kernel
theorem dX4_writeHeader_85 : decode cX4_writeHeader 85 = .ok (.goto (-26), 3) := by decide +kernel
theorem dX4_writeHeader_88 : decode cX4_writeHeader 88 = .ok (.iload 4, 2) := by decide +kernel
theorem dX4_writeHeader_90 : decode cX4_writeHeader 90 = .ok (.ireturn, 1) := by decide +kernel
theorem dX4_enqueue_0 : decode cX4_enqueue 0 = .ok (.iload_n 2, 1) := by decide +kernel
theorem dX4_enqueue_1 : decode cX4_enqueue 1 = .ok (.istore_n 3, 1) := by decide +kernel
theorem dX4_enqueue_2 : decode cX4_enqueue 2 = .ok (.iload_n 3, 1) := by decide +kernel
theorem dX4_enqueue_3 : decode cX4_enqueue 3 = .ok (.ifCond .le 48, 3) := by decide +kernel
theorem dX4_enqueue_6 : decode cX4_enqueue 6 = .ok (.aload_n 0, 1) := by decide +kernel
theorem dX4_enqueue_7 : decode cX4_enqueue 7 = .ok (.getfield 11, 3) := by decide +kernel
theorem dX4_enqueue_10 : decode cX4_enqueue 10 = .ok (.iload_n 1, 1) := by decide +kernel
theorem dX4_enqueue_11 : decode cX4_enqueue 11 = .ok (.aaload, 1) := by decide +kernel
theorem dX4_enqueue_12 : decode cX4_enqueue 12 = .ok (.aload_n 0, 1) := by decide +kernel
theorem dX4_enqueue_13 : decode cX4_enqueue 13 = .ok (.getfield 11, 3) := by decide +kernel
theorem dX4_enqueue_16 : decode cX4_enqueue 16 = .ok (.aload_n 0, 1) := by decide +kernel
theorem dX4_enqueue_17 : decode cX4_enqueue 17 = .ok (.getfield 26, 3) := by decide +kernel
theorem dX4_enqueue_20 : decode cX4_enqueue 20 = .ok (.iload_n 3, 1) := by decide +kernel
theorem dX4_enqueue_21 : decode cX4_enqueue 21 = .ok (.iconst 1, 1) := by decide +kernel
theorem dX4_enqueue_22 : decode cX4_enqueue 22 = .ok (.isub, 1) := by decide +kernel
theorem dX4_enqueue_23 : decode cX4_enqueue 23 = .ok (.iaload, 1) := by decide +kernel
theorem dX4_enqueue_24 : decode cX4_enqueue 24 = .ok (.aaload, 1) := by decide +kernel
theorem dX4_enqueue_25 : decode cX4_enqueue 25 = .ok (.invokevirtual 298, 3) := by decide +kernel
theorem dX4_enqueue_28 : decode cX4_enqueue 28 = .ok (.ifCond .eq 23, 3) := by decide +kernel
theorem dX4_enqueue_31 : decode cX4_enqueue 31 = .ok (.aload_n 0, 1) := by decide +kernel
theorem dX4_enqueue_32 : decode cX4_enqueue 32 = .ok (.getfield 26, 3) := by decide +kernel
theorem dX4_enqueue_35 : decode cX4_enqueue 35 = .ok (.iload_n 3, 1) := by decide +kernel
theorem dX4_enqueue_36 : decode cX4_enqueue 36 = .ok (.aload_n 0, 1) := by decide +kernel
theorem dX4_enqueue_37 : decode cX4_enqueue 37 = .ok (.getfield 26, 3) := by decide +kernel
theorem dX4_enqueue_40 : decode cX4_enqueue 40 = .ok (.iload_n 3, 1) := by decide +kernel
theorem dX4_enqueue_41 : decode cX4_enqueue 41 = .ok (.iconst 1, 1) := by decide +kernel
theorem dX4_enqueue_42 : decode cX4_enqueue 42 = .ok (.isub, 1) := by decide +kernel
theorem dX4_enqueue_43 : decode cX4_enqueue 43 = .ok (.iaload, 1) := by decide +kernel
theorem dX4_enqueue_44 : decode cX4_enqueue 44 = .ok (.iastore, 1) := by decide +kernel
theorem dX4_enqueue_45 : decode cX4_enqueue 45 = .ok (.iinc 3 (-1), 3) := by decide +kernel
theorem dX4_enqueue_48 : decode cX4_enqueue 48 = .ok (.goto (-46), 3) := by decide +kernel
theorem dX4_enqueue_51 : decode cX4_enqueue 51 = .ok (.aload_n 0, 1) := by decide +kernel
theorem dX4_enqueue_52 : decode cX4_enqueue 52 = .ok (.getfield 26, 3) := by decide +kernel
theorem dX4_enqueue_55 : decode cX4_enqueue 55 = .ok (.iload_n 3, 1) := by decide +kernel
theorem dX4_enqueue_56 : decode cX4_enqueue 56 = .ok (.iload_n 1, 1) := by decide +kernel
theorem dX4_enqueue_57 : decode cX4_enqueue 57 = .ok (.iastore, 1) := by decide +kernel
theorem dX4_enqueue_58 : decode cX4_enqueue 58 = .ok (.return_, 1) := by decide +kernel
theorem dX4_writeCookie_0 : decode cX4_writeCookie 0 = .ok (.aload_n 0, 1) := by decide +kernel
theorem dX4_writeCookie_1 : decode cX4_writeCookie 1 = .ok (.getfield 52, 3) := by decide +kernel
theorem dX4_writeCookie_4 : decode cX4_writeCookie 4 = .ok (.getfield 167, 3) := by decide +kernel
theorem dX4_writeCookie_7 : decode cX4_writeCookie 7 = .ok (.ifCond .le 21, 3) := by decide +kernel
theorem dX4_writeCookie_10 : decode cX4_writeCookie 10 = .ok (.aload_n 0, 1) := by decide +kernel
theorem dX4_writeCookie_11 : decode cX4_writeCookie 11 = .ok (.getfield 52, 3) := by decide +kernel
theorem dX4_writeCookie_14 : decode cX4_writeCookie 14 = .ok (.bipush 59, 2) := by decide +kernel
theorem dX4_writeCookie_16 : decode cX4_writeCookie 16 = .ok (.invokevirtual 232, 3) := by decide +kernel
theorem dX4_writeCookie_19 : decode cX4_writeCookie 19 = .ok (.aload_n 0, 1) := by decide +kernel
theorem dX4_writeCookie_20 : decode cX4_writeCookie 20 = .ok (.getfield 52, 3) := by decide +kernel
theorem dX4_writeCookie_23 : decode cX4_writeCookie 23 = .ok (.bipush 32, 2) := by decide +kernel
theorem dX4_writeCookie_25 : decode cX4_writeCookie 25 = .ok (.invokevirtual 232, 3) := by decide +kernel
theorem dX4_writeCookie_28 : decode cX4_writeCookie 28 = .ok (.aload_n 0, 1) := by decide +kernel
theorem dX4_writeCookie_29 : decode cX4_writeCookie 29 = .ok (.getfield 52, 3) := by decide +kernel
theorem dX4_writeCookie_32 : decode cX4_writeCookie 32 = .ok (.aload_n 1, 1) := by decide +kernel
theorem dX4_writeCookie_33 : decode cX4_writeCookie 33 = .ok (.getfield 188, 3) := by decide +kernel
theorem dX4_writeCookie_36 : decode cX4_writeCookie 36 = .ok (.invokevirtual 301, 3) := by decide +kernel
theorem dX4_writeCookie_39 : decode cX4_writeCookie 39 = .ok (.aload_n 0, 1) := by decide +kernel
theorem dX4_writeCookie_40 : decode cX4_writeCookie 40 = .ok (.getfield 52, 3) := by decide +kernel
theorem dX4_writeCookie_43 : decode cX4_writeCookie 43 = .ok (.bipush 61, 2) := by decide +kernel
theorem dX4_writeCookie_45 : decode cX4_writeCookie 45 = .ok (.invokevirtual 232, 3) := by decide +kernel
theorem dX4_writeCookie_48 : decode cX4_writeCookie 48 = .ok (.aload_n 0, 1) := by decide +kernel
theorem dX4_writeCookie_49 : decode cX4_writeCookie 49 = .ok (.getfield 52, 3) := by decide +kernel
theorem dX4_writeCookie_52 : decode cX4_writeCookie 52 = .ok (.aload_n 1, 1) := by decide +kernel
theorem dX4_writeCookie_53 : decode cX4_writeCookie 53 = .ok (.getfield 189, 3) := by decide +kernel
theorem dX4_writeCookie_56 : decode cX4_writeCookie 56 = .ok (.invokevirtual 301, 3) := by decide +kernel
theorem dX4_writeCookie_59 : decode cX4_writeCookie 59 = .ok (.aload_n 1, 1) := by decide +kernel
theorem dX4_writeCookie_60 : decode cX4_writeCookie 60 = .ok (.aload_n 0, 1) := by decide +kernel
theorem dX4_writeCookie_61 : decode cX4_writeCookie 61 = .ok (.getfield 68, 3) := by decide +kernel
theorem dX4_writeCookie_64 : decode cX4_writeCookie 64 = .ok (.putfield 208, 3) := by decide +kernel
theorem dX4_writeCookie_67 : decode cX4_writeCookie 67 = .ok (.return_, 1) := by decide +kernel
theorem dX4_firstNotBefore_0 : decode cX4_firstNotBefore 0 = .ok (.iconst 0, 1) := by decide +kernel
theorem dX4_firstNotBefore_1 : decode cX4_firstNotBefore 1 = .ok (.istore_n 2, 1) := by decide +kernel
theorem dX4_firstNotBefore_2 : decode cX4_firstNotBefore 2 = .ok (.iload_n 2, 1) := by decide +kernel
theorem dX4_firstNotBefore_3 : decode cX4_firstNotBefore 3 = .ok (.aload_n 0, 1) := by decide +kernel
theorem dX4_firstNotBefore_4 : decode cX4_firstNotBefore 4 = .ok (.getfield 18, 3) := by decide +kernel
theorem dX4_firstNotBefore_7 : decode cX4_firstNotBefore 7 = .ok (.if_icmp .ge 27, 3) := by decide +kernel
theorem dX4_firstNotBefore_10 : decode cX4_firstNotBefore 10 = .ok (.aload_n 0, 1) := by decide +kernel
theorem dX4_firstNotBefore_11 : decode cX4_firstNotBefore 11 = .ok (.getfield 11, 3) := by decide +kernel
theorem dX4_firstNotBefore_14 : decode cX4_firstNotBefore 14 = .ok (.iload_n 2, 1) := by decide +kernel
theorem dX4_firstNotBefore_15 : decode cX4_firstNotBefore 15 = .ok (.aaload, 1) := by decide +kernel
theorem dX4_firstNotBefore_16 : decode cX4_firstNotBefore 16 = .ok (.getfield 193, 3) := by decide +kernel
theorem dX4_firstNotBefore_19 : decode cX4_firstNotBefore 19 = .ok (.aload_n 1, 1) := by decide +kernel
theorem dX4_firstNotBefore_20 : decode cX4_firstNotBefore 20 = .ok (.invokestatic 304, 3) := by decide +kernel
theorem dX4_firstNotBefore_23 : decode cX4_firstNotBefore 23 = .ok (.ifCond .lt 5, 3) := by decide +kernel
theorem dX4_firstNotBefore_26 : decode cX4_firstNotBefore 26 = .ok (.iload_n 2, 1) := by decide +kernel
theorem dX4_firstNotBefore_27 : decode cX4_firstNotBefore 27 = .ok (.ireturn, 1) := by decide +kernel
theorem dX4_firstNotBefore_28 : decode cX4_firstNotBefore 28 = .ok (.iinc 2 1, 3) := by decide +kernel
theorem dX4_firstNotBefore_31 : decode cX4_firstNotBefore 31 = .ok (.goto (-29), 3) := by decide +kernel
theorem dX4_firstNotBefore_34 : decode cX4_firstNotBefore 34 = .ok (.iconst (-1), 1) := by decide +kernel
theorem dX4_firstNotBefore_35 : decode cX4_firstNotBefore 35 = .ok (.ireturn, 1) := by decide +kernel
theorem dX4_dropSite_0 : decode cX4_dropSite 0 = .ok (.aload_n 0, 1) := by decide +kernel
theorem dX4_dropSite_1 : decode cX4_dropSite 1 = .ok (.getfield 18, 3) := by decide +kernel
theorem dX4_dropSite_4 : decode cX4_dropSite 4 = .ok (.istore_n 2, 1) := by decide +kernel
theorem dX4_dropSite_5 : decode cX4_dropSite 5 = .ok (.aload_n 0, 1) := by decide +kernel
theorem dX4_dropSite_6 : decode cX4_dropSite 6 = .ok (.getfield 18, 3) := by decide +kernel
theorem dX4_dropSite_9 : decode cX4_dropSite 9 = .ok (.iconst 1, 1) := by decide +kernel
theorem dX4_dropSite_10 : decode cX4_dropSite 10 = .ok (.isub, 1) := by decide +kernel
theorem dX4_dropSite_11 : decode cX4_dropSite 11 = .ok (.istore_n 3, 1) := by decide +kernel
theorem dX4_dropSite_12 : decode cX4_dropSite 12 = .ok (.iload_n 3, 1) := by decide +kernel
theorem dX4_dropSite_13 : decode cX4_dropSite 13 = .ok (.ifCond .lt 34, 3) := by decide +kernel
theorem dX4_dropSite_16 : decode cX4_dropSite 16 = .ok (.aload_n 0, 1) := by decide +kernel
theorem dX4_dropSite_17 : decode cX4_dropSite 17 = .ok (.getfield 33, 3) := by decide +kernel
theorem dX4_dropSite_20 : decode cX4_dropSite 20 = .ok (.aload_n 0, 1) := by decide +kernel
theorem dX4_dropSite_21 : decode cX4_dropSite 21 = .ok (.getfield 11, 3) := by decide +kernel
theorem dX4_dropSite_24 : decode cX4_dropSite 24 = .ok (.iload_n 3, 1) := by decide +kernel
theorem dX4_dropSite_25 : decode cX4_dropSite 25 = .ok (.aaload, 1) := by decide +kernel
theorem dX4_dropSite_26 : decode cX4_dropSite 26 = .ok (.getfield 193, 3) := by decide +kernel
theorem dX4_dropSite_29 : decode cX4_dropSite 29 = .ok (.aload_n 1, 1) := by decide +kernel
theorem dX4_dropSite_30 : decode cX4_dropSite 30 = .ok (.invokevirtual 96, 3) := by decide +kernel
theorem dX4_dropSite_33 : decode cX4_dropSite 33 = .ok (.ifCond .eq 8, 3) := by decide +kernel
theorem dX4_dropSite_36 : decode cX4_dropSite 36 = .ok (.aload_n 0, 1) := by decide +kernel
theorem dX4_dropSite_37 : decode cX4_dropSite 37 = .ok (.iload_n 3, 1) := by decide +kernel
theorem dX4_dropSite_38 : decode cX4_dropSite 38 = .ok (.invokevirtual 152, 3) := by decide +kernel
theorem dX4_dropSite_41 : decode cX4_dropSite 41 = .ok (.iinc 3 (-1), 3) := by decide +kernel
theorem dX4_dropSite_44 : decode cX4_dropSite 44 = .ok (.goto (-32), 3) := by decide +kernel
theorem dX4_dropSite_47 : decode cX4_dropSite 47 = .ok (.iload_n 2, 1) := by decide +kernel
theorem dX4_dropSite_48 : decode cX4_dropSite 48 = .ok (.aload_n 0, 1) := by decide +kernel
theorem dX4_dropSite_49 : decode cX4_dropSite 49 = .ok (.getfield 18, 3) := by decide +kernel
theorem dX4_dropSite_52 : decode cX4_dropSite 52 = .ok (.isub, 1) := by decide +kernel
theorem dX4_dropSite_53 : decode cX4_dropSite 53 = .ok (.ireturn, 1) := by decide +kernel
theorem dX4_dropSession_0 : decode cX4_dropSession 0 = .ok (.aload_n 0, 1) := by decide +kernel
theorem dX4_dropSession_1 : decode cX4_dropSession 1 = .ok (.getfield 18, 3) := by decide +kernel
theorem dX4_dropSession_4 : decode cX4_dropSession 4 = .ok (.istore_n 1, 1) := by decide +kernel
theorem dX4_dropSession_5 : decode cX4_dropSession 5 = .ok (.aload_n 0, 1) := by decide +kernel
theorem dX4_dropSession_6 : decode cX4_dropSession 6 = .ok (.getfield 18, 3) := by decide +kernel
theorem dX4_dropSession_9 : decode cX4_dropSession 9 = .ok (.iconst 1, 1) := by decide +kernel
theorem dX4_dropSession_10 : decode cX4_dropSession 10 = .ok (.isub, 1) := by decide +kernel
theorem dX4_dropSession_11 : decode cX4_dropSession 11 = .ok (.istore_n 2, 1) := by decide +kernel
theorem dX4_dropSession_12 : decode cX4_dropSession 12 = .ok (.iload_n 2, 1) := by decide +kernel
theorem dX4_dropSession_13 : decode cX4_dropSession 13 = .ok (.ifCond .lt 30, 3) := by decide +kernel
theorem dX4_dropSession_16 : decode cX4_dropSession 16 = .ok (.aload_n 0, 1) := by decide +kernel
theorem dX4_dropSession_17 : decode cX4_dropSession 17 = .ok (.getfield 11, 3) := by decide +kernel
theorem dX4_dropSession_20 : decode cX4_dropSession 20 = .ok (.iload_n 2, 1) := by decide +kernel
theorem dX4_dropSession_21 : decode cX4_dropSession 21 = .ok (.aaload, 1) := by decide +kernel
theorem dX4_dropSession_22 : decode cX4_dropSession 22 = .ok (.getfield 205, 3) := by decide +kernel
theorem dX4_dropSession_25 : decode cX4_dropSession 25 = .ok (.ldc2_w 308, 3) := by decide +kernel
theorem dX4_dropSession_28 : decode cX4_dropSession 28 = .ok (.lcmp, 1) := by decide +kernel
theorem dX4_dropSession_29 : decode cX4_dropSession 29 = .ok (.ifCond .ne 8, 3) := by decide +kernel
theorem dX4_dropSession_32 : decode cX4_dropSession 32 = .ok (.aload_n 0, 1) := by decide +kernel
theorem dX4_dropSession_33 : decode cX4_dropSession 33 = .ok (.iload_n 2, 1) := by decide +kernel
theorem dX4_dropSession_34 : decode cX4_dropSession 34 = .ok (.invokevirtual 152, 3) := by decide +kernel
theorem dX4_dropSession_37 : decode cX4_dropSession 37 = .ok (.iinc 2 (-1), 3) := by decide +kernel
theorem dX4_dropSession_40 : decode cX4_dropSession 40 = .ok (.goto (-28), 3) := by decide +kernel
theorem dX4_dropSession_43 : decode cX4_dropSession 43 = .ok (.iload_n 1, 1) := by decide +kernel
theorem dX4_dropSession_44 : decode cX4_dropSession 44 = .ok (.aload_n 0, 1) := by decide +kernel
theorem dX4_dropSession_45 : decode cX4_dropSession 45 = .ok (.getfield 18, 3) := by decide +kernel
theorem dX4_dropSession_48 : decode cX4_dropSession 48 = .ok (.isub, 1) := by decide +kernel
theorem dX4_dropSession_49 : decode cX4_dropSession 49 = .ok (.ireturn, 1) := by decide +kernel
theorem dX4_pass_0 : decode cX4_pass 0 = .ok (.aload_n 0, 1) := by decide +kernel
theorem dX4_pass_1 : decode cX4_pass 1 = .ok (.dup, 1) := by decide +kernel
theorem dX4_pass_2 : decode cX4_pass 2 = .ok (.getfield 68, 3) := by decide +kernel
theorem dX4_pass_5 : decode cX4_pass 5 = .ok (.iload_n 1, 1) := by decide +kernel
theorem dX4_pass_6 : decode cX4_pass 6 = .ok (.i2l, 1) := by decide +kernel
theorem dX4_pass_7 : decode cX4_pass 7 = .ok (.ladd, 1) := by decide +kernel
theorem dX4_pass_8 : decode cX4_pass 8 = .ok (.putfield 68, 3) := by decide +kernel
theorem dX4_pass_11 : decode cX4_pass 11 = .ok (.aload_n 0, 1) := by decide +kernel
theorem dX4_pass_12 : decode cX4_pass 12 = .ok (.getfield 18, 3) := by decide +kernel
theorem dX4_pass_15 : decode cX4_pass 15 = .ok (.istore_n 2, 1) := by decide +kernel
theorem dX4_pass_16 : decode cX4_pass 16 = .ok (.aload_n 0, 1) := by decide +kernel
theorem dX4_pass_17 : decode cX4_pass 17 = .ok (.getfield 18, 3) := by decide +kernel
theorem dX4_pass_20 : decode cX4_pass 20 = .ok (.iconst 1, 1) := by decide +kernel
theorem dX4_pass_21 : decode cX4_pass 21 = .ok (.isub, 1) := by decide +kernel
theorem dX4_pass_22 : decode cX4_pass 22 = .ok (.istore_n 3, 1) := by decide +kernel
theorem dX4_pass_23 : decode cX4_pass 23 = .ok (.iload_n 3, 1) := by decide +kernel
theorem dX4_pass_24 : decode cX4_pass 24 = .ok (.ifCond .lt 47, 3) := by decide +kernel
theorem dX4_pass_27 : decode cX4_pass 27 = .ok (.aload_n 0, 1) := by decide +kernel
theorem dX4_pass_28 : decode cX4_pass 28 = .ok (.getfield 11, 3) := by decide +kernel
theorem dX4_pass_31 : decode cX4_pass 31 = .ok (.iload_n 3, 1) := by decide +kernel
theorem dX4_pass_32 : decode cX4_pass 32 = .ok (.aaload, 1) := by decide +kernel
theorem dX4_pass_33 : decode cX4_pass 33 = .ok (.getfield 205, 3) := by decide +kernel
theorem dX4_pass_36 : decode cX4_pass 36 = .ok (.ldc2_w 308, 3) := by decide +kernel
theorem dX4_pass_39 : decode cX4_pass 39 = .ok (.lcmp, 1) := by decide +kernel
theorem dX4_pass_40 : decode cX4_pass 40 = .ok (.ifCond .eq 25, 3) := by decide +kernel
theorem dX4_pass_43 : decode cX4_pass 43 = .ok (.aload_n 0, 1) := by decide +kernel
theorem dX4_pass_44 : decode cX4_pass 44 = .ok (.getfield 11, 3) := by decide +kernel
theorem dX4_pass_47 : decode cX4_pass 47 = .ok (.iload_n 3, 1) := by decide +kernel
theorem dX4_pass_48 : decode cX4_pass 48 = .ok (.aaload, 1) := by decide +kernel
theorem dX4_pass_49 : decode cX4_pass 49 = .ok (.getfield 205, 3) := by decide +kernel
theorem dX4_pass_52 : decode cX4_pass 52 = .ok (.aload_n 0, 1) := by decide +kernel
theorem dX4_pass_53 : decode cX4_pass 53 = .ok (.getfield 68, 3) := by decide +kernel
theorem dX4_pass_56 : decode cX4_pass 56 = .ok (.lcmp, 1) := by decide +kernel
theorem dX4_pass_57 : decode cX4_pass 57 = .ok (.ifCond .gt 8, 3) := by decide +kernel
theorem dX4_pass_60 : decode cX4_pass 60 = .ok (.aload_n 0, 1) := by decide +kernel
theorem dX4_pass_61 : decode cX4_pass 61 = .ok (.iload_n 3, 1) := by decide +kernel
theorem dX4_pass_62 : decode cX4_pass 62 = .ok (.invokevirtual 152, 3) := by decide +kernel
theorem dX4_pass_65 : decode cX4_pass 65 = .ok (.iinc 3 (-1), 3) := by decide +kernel
theorem dX4_pass_68 : decode cX4_pass 68 = .ok (.goto (-45), 3) := by decide +kernel
theorem dX4_pass_71 : decode cX4_pass 71 = .ok (.aload_n 0, 1) := by decide +kernel
theorem dX4_pass_72 : decode cX4_pass 72 = .ok (.getfield 59, 3) := by decide +kernel
theorem dX4_pass_75 : decode cX4_pass 75 = .ok (.iconst 3, 1) := by decide +kernel
theorem dX4_pass_76 : decode cX4_pass 76 = .ok (.dup2, 1) := by decide +kernel
theorem dX4_pass_77 : decode cX4_pass 77 = .ok (.iaload, 1) := by decide +kernel
theorem dX4_pass_78 : decode cX4_pass 78 = .ok (.iload_n 2, 1) := by decide +kernel
theorem dX4_pass_79 : decode cX4_pass 79 = .ok (.aload_n 0, 1) := by decide +kernel
theorem dX4_pass_80 : decode cX4_pass 80 = .ok (.getfield 18, 3) := by decide +kernel
theorem dX4_pass_83 : decode cX4_pass 83 = .ok (.isub, 1) := by decide +kernel
theorem dX4_pass_84 : decode cX4_pass 84 = .ok (.iadd, 1) := by decide +kernel
theorem dX4_pass_85 : decode cX4_pass 85 = .ok (.iastore, 1) := by decide +kernel
theorem dX4_pass_86 : decode cX4_pass 86 = .ok (.iload_n 2, 1) := by decide +kernel
theorem dX4_pass_87 : decode cX4_pass 87 = .ok (.aload_n 0, 1) := by decide +kernel
theorem dX4_pass_88 : decode cX4_pass 88 = .ok (.getfield 18, 3) := by decide +kernel
theorem dX4_pass_91 : decode cX4_pass 91 = .ok (.isub, 1) := by decide +kernel
theorem dX4_pass_92 : decode cX4_pass 92 = .ok (.ireturn, 1) := by decide +kernel
theorem dX4_earliestExpiry_0 : decode cX4_earliestExpiry 0 = .ok (.ldc2_w 308, 3) := by decide +kernel
theorem dX4_earliestExpiry_3 : decode cX4_earliestExpiry 3 = .ok (.lstore_n 1, 1) := by decide +kernel
theorem dX4_earliestExpiry_4 : decode cX4_earliestExpiry 4 = .ok (.iconst 0, 1) := by decide +kernel
theorem dX4_earliestExpiry_5 : decode cX4_earliestExpiry 5 = .ok (.istore_n 3, 1) := by decide +kernel
theorem dX4_earliestExpiry_6 : decode cX4_earliestExpiry 6 = .ok (.iload_n 3, 1) := by decide +kernel
theorem dX4_earliestExpiry_7 : decode cX4_earliestExpiry 7 = .ok (.aload_n 0, 1) := by decide +kernel
theorem dX4_earliestExpiry_8 : decode cX4_earliestExpiry 8 = .ok (.getfield 18, 3) := by decide +kernel
theorem dX4_earliestExpiry_11 : decode cX4_earliestExpiry 11 = .ok (.if_icmp .ge 47, 3) := by decide +kernel
theorem dX4_earliestExpiry_14 : decode cX4_earliestExpiry 14 = .ok (.aload_n 0, 1) := by decide +kernel
theorem dX4_earliestExpiry_15 : decode cX4_earliestExpiry 15 = .ok (.getfield 11, 3) := by decide +kernel
theorem dX4_earliestExpiry_18 : decode cX4_earliestExpiry 18 = .ok (.iload_n 3, 1) := by decide +kernel
theorem dX4_earliestExpiry_19 : decode cX4_earliestExpiry 19 = .ok (.aaload, 1) := by decide +kernel
theorem dX4_earliestExpiry_20 : decode cX4_earliestExpiry 20 = .ok (.getfield 205, 3) := by decide +kernel
theorem dX4_earliestExpiry_23 : decode cX4_earliestExpiry 23 = .ok (.lstore 4, 2) := by decide +kernel
theorem dX4_earliestExpiry_25 : decode cX4_earliestExpiry 25 = .ok (.lload 4, 2) := by decide +kernel
theorem dX4_earliestExpiry_27 : decode cX4_earliestExpiry 27 = .ok (.ldc2_w 308, 3) := by decide +kernel
theorem dX4_earliestExpiry_30 : decode cX4_earliestExpiry 30 = .ok (.lcmp, 1) := by decide +kernel
theorem dX4_earliestExpiry_31 : decode cX4_earliestExpiry 31 = .ok (.ifCond .eq 21, 3) := by decide +kernel
theorem dX4_earliestExpiry_34 : decode cX4_earliestExpiry 34 = .ok (.lload_n 1, 1) := by decide +kernel
theorem dX4_earliestExpiry_35 : decode cX4_earliestExpiry 35 = .ok (.ldc2_w 308, 3) := by decide +kernel
theorem dX4_earliestExpiry_38 : decode cX4_earliestExpiry 38 = .ok (.lcmp, 1) := by decide +kernel
theorem dX4_earliestExpiry_39 : decode cX4_earliestExpiry 39 = .ok (.ifCond .eq 10, 3) := by decide +kernel
theorem dX4_earliestExpiry_42 : decode cX4_earliestExpiry 42 = .ok (.lload 4, 2) := by decide +kernel
theorem dX4_earliestExpiry_44 : decode cX4_earliestExpiry 44 = .ok (.lload_n 1, 1) := by decide +kernel
theorem dX4_earliestExpiry_45 : decode cX4_earliestExpiry 45 = .ok (.lcmp, 1) := by decide +kernel
theorem dX4_earliestExpiry_46 : decode cX4_earliestExpiry 46 = .ok (.ifCond .ge 6, 3) := by decide +kernel
theorem dX4_earliestExpiry_49 : decode cX4_earliestExpiry 49 = .ok (.lload 4, 2) := by decide +kernel
theorem dX4_earliestExpiry_51 : decode cX4_earliestExpiry 51 = .ok (.lstore_n 1, 1) := by decide +kernel
theorem dX4_earliestExpiry_52 : decode cX4_earliestExpiry 52 = .ok (.iinc 3 1, 3) := by decide +kernel
theorem dX4_earliestExpiry_55 : decode cX4_earliestExpiry 55 = .ok (.goto (-49), 3) := by decide +kernel
theorem dX4_earliestExpiry_58 : decode cX4_earliestExpiry 58 = .ok (.lload_n 1, 1) := by decide +kernel
theorem dX4_earliestExpiry_59 : decode cX4_earliestExpiry 59 = .ok (.lreturn, 1) := by decide +kernel
theorem dX4_mix_0 : decode cX4_mix 0 = .ok (.ldc2_w 310, 3) := by decide +kernel
theorem dX4_mix_3 : decode cX4_mix 3 = .ok (.aload_n 0, 1) := by decide +kernel
theorem dX4_mix_4 : decode cX4_mix 4 = .ok (.getfield 68, 3) := by decide +kernel
theorem dX4_mix_7 : decode cX4_mix 7 = .ok (.ladd, 1) := by decide +kernel
theorem dX4_mix_8 : decode cX4_mix 8 = .ok (.lstore_n 1, 1) := by decide +kernel
theorem dX4_mix_9 : decode cX4_mix 9 = .ok (.iconst 0, 1) := by decide +kernel
theorem dX4_mix_10 : decode cX4_mix 10 = .ok (.istore_n 3, 1) := by decide +kernel
theorem dX4_mix_11 : decode cX4_mix 11 = .ok (.iload_n 3, 1) := by decide +kernel
theorem dX4_mix_12 : decode cX4_mix 12 = .ok (.aload_n 0, 1) := by decide +kernel
theorem dX4_mix_13 : decode cX4_mix 13 = .ok (.getfield 18, 3) := by decide +kernel
theorem dX4_mix_16 : decode cX4_mix 16 = .ok (.if_icmp .ge 20, 3) := by decide +kernel
theorem dX4_mix_19 : decode cX4_mix 19 = .ok (.aload_n 0, 1) := by decide +kernel
theorem dX4_mix_20 : decode cX4_mix 20 = .ok (.getfield 11, 3) := by decide +kernel
theorem dX4_mix_23 : decode cX4_mix 23 = .ok (.iload_n 3, 1) := by decide +kernel
theorem dX4_mix_24 : decode cX4_mix 24 = .ok (.aaload, 1) := by decide +kernel
theorem dX4_mix_25 : decode cX4_mix 25 = .ok (.lload_n 1, 1) := by decide +kernel
theorem dX4_mix_26 : decode cX4_mix 26 = .ok (.invokevirtual 312, 3) := by decide +kernel
theorem dX4_mix_29 : decode cX4_mix 29 = .ok (.lstore_n 1, 1) := by decide +kernel
theorem dX4_mix_30 : decode cX4_mix 30 = .ok (.iinc 3 1, 3) := by decide +kernel
theorem dX4_mix_33 : decode cX4_mix 33 = .ok (.goto (-22), 3) := by decide +kernel
theorem dX4_mix_36 : decode cX4_mix 36 = .ok (.iconst 0, 1) := by decide +kernel
theorem dX4_mix_37 : decode cX4_mix 37 = .ok (.istore_n 3, 1) := by decide +kernel
theorem dX4_mix_38 : decode cX4_mix 38 = .ok (.iload_n 3, 1) := by decide +kernel
theorem dX4_mix_39 : decode cX4_mix 39 = .ok (.bipush 7, 2) := by decide +kernel
theorem dX4_mix_41 : decode cX4_mix 41 = .ok (.if_icmp .ge 23, 3) := by decide +kernel
theorem dX4_mix_44 : decode cX4_mix 44 = .ok (.ldc2_w 315, 3) := by decide +kernel
theorem dX4_mix_47 : decode cX4_mix 47 = .ok (.lload_n 1, 1) := by decide +kernel
theorem dX4_mix_48 : decode cX4_mix 48 = .ok (.lmul, 1) := by decide +kernel
theorem dX4_mix_49 : decode cX4_mix 49 = .ok (.aload_n 0, 1) := by decide +kernel
theorem dX4_mix_50 : decode cX4_mix 50 = .ok (.getfield 59, 3) := by decide +kernel
theorem dX4_mix_53 : decode cX4_mix 53 = .ok (.iload_n 3, 1) := by decide +kernel
theorem dX4_mix_54 : decode cX4_mix 54 = .ok (.iaload, 1) := by decide +kernel
theorem dX4_mix_55 : decode cX4_mix 55 = .ok (.i2l, 1) := by decide +kernel
theorem dX4_mix_56 : decode cX4_mix 56 = .ok (.ladd, 1) := by decide +kernel
theorem dX4_mix_57 : decode cX4_mix 57 = .ok (.lstore_n 1, 1) := by decide +kernel
theorem dX4_mix_58 : decode cX4_mix 58 = .ok (.iinc 3 1, 3) := by decide +kernel
theorem dX4_mix_61 : decode cX4_mix 61 = .ok (.goto (-23), 3) := by decide +kernel
theorem dX4_mix_64 : decode cX4_mix 64 = .ok (.lload_n 1, 1) := by decide +kernel
theorem dX4_mix_65 : decode cX4_mix 65 = .ok (.lreturn, 1) := by decide +kernel
theorem dX5_init_0 : decode cX5_init 0 = .ok (.aload_n 0, 1) := by decide +kernel
theorem dX5_init_1 : decode cX5_init 1 = .ok (.invokespecial 3, 3) := by decide +kernel
theorem dX5_init_4 : decode cX5_init 4 = .ok (.aload_n 0, 1) := by decide +kernel
theorem dX5_init_5 : decode cX5_init 5 = .ok (.new 9, 3) := by decide +kernel
theorem dX5_init_8 : decode cX5_init 8 = .ok (.dup, 1) := by decide +kernel
theorem dX5_init_9 : decode cX5_init 9 = .ok (.sipush 160, 3) := by decide +kernel
theorem dX5_init_12 : decode cX5_init 12 = .ok (.invokespecial 11, 3) := by decide +kernel
theorem dX5_init_15 : decode cX5_init 15 = .ok (.putfield 14, 3) := by decide +kernel
theorem dX5_init_18 : decode cX5_init 18 = .ok (.aload_n 0, 1) := by decide +kernel
theorem dX5_init_19 : decode cX5_init 19 = .ok (.new 9, 3) := by decide +kernel
theorem dX5_init_22 : decode cX5_init 22 = .ok (.dup, 1) := by decide +kernel
theorem dX5_init_23 : decode cX5_init 23 = .ok (.sipush 160, 3) := by decide +kernel
theorem dX5_init_26 : decode cX5_init 26 = .ok (.invokespecial 11, 3) := by decide +kernel
theorem dX5_init_29 : decode cX5_init 29 = .ok (.putfield 20, 3) := by decide +kernel
theorem dX5_init_32 : decode cX5_init 32 = .ok (.aload_n 0, 1) := by decide +kernel
theorem dX5_init_33 : decode cX5_init 33 = .ok (.new 9, 3) := by decide +kernel
theorem dX5_init_36 : decode cX5_init 36 = .ok (.dup, 1) := by decide +kernel
theorem dX5_init_37 : decode cX5_init 37 = .ok (.sipush 160, 3) := by decide +kernel
theorem dX5_init_40 : decode cX5_init 40 = .ok (.invokespecial 11, 3) := by decide +kernel
theorem dX5_init_43 : decode cX5_init 43 = .ok (.putfield 23, 3) := by decide +kernel
theorem dX5_init_46 : decode cX5_init 46 = .ok (.aload_n 0, 1) := by decide +kernel
theorem dX5_init_47 : decode cX5_init 47 = .ok (.new 9, 3) := by decide +kernel
theorem dX5_init_50 : decode cX5_init 50 = .ok (.dup, 1) := by decide +kernel
theorem dX5_init_51 : decode cX5_init 51 = .ok (.bipush 40, 2) := by decide +kernel
theorem dX5_init_53 : decode cX5_init 53 = .ok (.invokespecial 11, 3) := by decide +kernel
theorem dX5_init_56 : decode cX5_init 56 = .ok (.putfield 26, 3) := by decide +kernel
theorem dX5_init_59 : decode cX5_init 59 = .ok (.aload_n 0, 1) := by decide +kernel
theorem dX5_init_60 : decode cX5_init 60 = .ok (.new 9, 3) := by decide +kernel
theorem dX5_init_63 : decode cX5_init 63 = .ok (.dup, 1) := by decide +kernel
theorem dX5_init_64 : decode cX5_init 64 = .ok (.sipush 160, 3) := by decide +kernel
theorem dX5_init_67 : decode cX5_init 67 = .ok (.invokespecial 11, 3) := by decide +kernel
theorem dX5_init_70 : decode cX5_init 70 = .ok (.putfield 29, 3) := by decide +kernel
theorem dX5_init_73 : decode cX5_init 73 = .ok (.aload_n 0, 1) := by decide +kernel
theorem dX5_init_74 : decode cX5_init 74 = .ok (.new 9, 3) := by decide +kernel
theorem dX5_init_77 : decode cX5_init 77 = .ok (.dup, 1) := by decide +kernel
theorem dX5_init_78 : decode cX5_init 78 = .ok (.sipush 160, 3) := by decide +kernel
theorem dX5_init_81 : decode cX5_init 81 = .ok (.invokespecial 11, 3) := by decide +kernel
theorem dX5_init_84 : decode cX5_init 84 = .ok (.putfield 32, 3) := by decide +kernel
theorem dX5_init_87 : decode cX5_init 87 = .ok (.return_, 1) := by decide +kernel
theorem dX5_read_0 : decode cX5_read 0 = .ok (.aload_n 0, 1) := by decide +kernel
theorem dX5_read_1 : decode cX5_read 1 = .ok (.invokevirtual 35, 3) := by decide +kernel
theorem dX5_read_4 : decode cX5_read 4 = .ok (.aload_n 1, 1) := by decide +kernel
theorem dX5_read_5 : decode cX5_read 5 = .ok (.bipush 59, 2) := by decide +kernel
theorem dX5_read_7 : decode cX5_read 7 = .ok (.iconst 0, 1) := by decide +kernel
theorem dX5_read_8 : decode cX5_read 8 = .ok (.aload_n 1, 1) := by decide +kernel
theorem dX5_read_9 : decode cX5_read 9 = .ok (.getfield 38, 3) := by decide +kernel
theorem dX5_read_12 : decode cX5_read 12 = .ok (.invokevirtual 42, 3) := by decide +kernel
theorem dX5_read_15 : decode cX5_read 15 = .ok (.istore_n 2, 1) := by decide +kernel
theorem dX5_read_16 : decode cX5_read 16 = .ok (.aload_n 0, 1) := by decide +kernel
theorem dX5_read_17 : decode cX5_read 17 = .ok (.aload_n 1, 1) := by decide +kernel
theorem dX5_read_18 : decode cX5_read 18 = .ok (.iload_n 2, 1) := by decide +kernel
theorem dX5_read_19 : decode cX5_read 19 = .ok (.invokevirtual 46, 3) := by decide +kernel
theorem dX5_read_22 : decode cX5_read 22 = .ok (.iload_n 2, 1) := by decide +kernel
theorem dX5_read_23 : decode cX5_read 23 = .ok (.iconst 1, 1) := by decide +kernel
theorem dX5_read_24 : decode cX5_read 24 = .ok (.iadd, 1) := by decide +kernel
theorem dX5_read_25 : decode cX5_read 25 = .ok (.istore_n 3, 1) := by decide +kernel
theorem dX5_read_26 : decode cX5_read 26 = .ok (.iload_n 3, 1) := by decide +kernel
theorem dX5_read_27 : decode cX5_read 27 = .ok (.istore 4, 2) := by decide +kernel
theorem dX5_read_29 : decode cX5_read 29 = .ok (.iload 4, 2) := by decide +kernel
theorem dX5_read_31 : decode cX5_read 31 = .ok (.aload_n 1, 1) := by decide +kernel
theorem dX5_read_32 : decode cX5_read 32 = .ok (.getfield 38, 3) := by decide +kernel
theorem dX5_read_35 : decode cX5_read 35 = .ok (.if_icmp .gt 42, 3) := by decide +kernel
theorem dX5_read_38 : decode cX5_read 38 = .ok (.iload 4, 2) := by decide +kernel
theorem dX5_read_40 : decode cX5_read 40 = .ok (.aload_n 1, 1) := by decide +kernel
theorem dX5_read_41 : decode cX5_read 41 = .ok (.getfield 38, 3) := by decide +kernel
theorem dX5_read_44 : decode cX5_read 44 = .ok (.if_icmp .eq 14, 3) := by decide +kernel
theorem dX5_read_47 : decode cX5_read 47 = .ok (.aload_n 1, 1) := by decide +kernel
theorem dX5_read_48 : decode cX5_read 48 = .ok (.iload 4, 2) := by decide +kernel
theorem dX5_read_50 : decode cX5_read 50 = .ok (.invokevirtual 50, 3) := by decide +kernel
theorem dX5_read_53 : decode cX5_read 53 = .ok (.bipush 59, 2) := by decide +kernel
theorem dX5_read_55 : decode cX5_read 55 = .ok (.if_icmp .ne 16, 3) := by decide +kernel
theorem dX5_read_58 : decode cX5_read 58 = .ok (.aload_n 0, 1) := by decide +kernel
theorem dX5_read_59 : decode cX5_read 59 = .ok (.aload_n 1, 1) := by decide +kernel
theorem dX5_read_60 : decode cX5_read 60 = .ok (.iload_n 3, 1) := by decide +kernel
theorem dX5_read_61 : decode cX5_read 61 = .ok (.iload 4, 2) := by decide +kernel
theorem dX5_read_63 : decode cX5_read 63 = .ok (.invokevirtual 54, 3) := by decide +kernel
theorem dX5_read_66 : decode cX5_read 66 = .ok (.iload 4, 2) := by decide +kernel
theorem dX5_read_68 : decode cX5_read 68 = .ok (.iconst 1, 1) := by decide +kernel
theorem dX5_read_69 : decode cX5_read 69 = .ok (.iadd, 1) := by decide +kernel
theorem dX5_read_70 : decode cX5_read 70 = .ok (.istore_n 3, 1) := by decide +kernel
theorem dX5_read_71 : decode cX5_read 71 = .ok (.iinc 4 1, 3) := by decide +kernel
theorem dX5_read_74 : decode cX5_read 74 = .ok (.goto (-45), 3) := by decide +kernel
theorem dX5_read_77 : decode cX5_read 77 = .ok (.return_, 1) := by decide +kernel
theorem dX5_forget_0 : decode cX5_forget 0 = .ok (.aload_n 0, 1) := by decide +kernel
theorem dX5_forget_1 : decode cX5_forget 1 = .ok (.getfield 23, 3) := by decide +kernel
theorem dX5_forget_4 : decode cX5_forget 4 = .ok (.invokevirtual 58, 3) := by decide +kernel
theorem dX5_forget_7 : decode cX5_forget 7 = .ok (.aload_n 0, 1) := by decide +kernel
theorem dX5_forget_8 : decode cX5_forget 8 = .ok (.getfield 26, 3) := by decide +kernel
theorem dX5_forget_11 : decode cX5_forget 11 = .ok (.invokevirtual 58, 3) := by decide +kernel
theorem dX5_forget_14 : decode cX5_forget 14 = .ok (.aload_n 0, 1) := by decide +kernel
theorem dX5_forget_15 : decode cX5_forget 15 = .ok (.iconst 0, 1) := by decide +kernel
theorem dX5_forget_16 : decode cX5_forget 16 = .ok (.putfield 61, 3) := by decide +kernel
theorem dX5_forget_19 : decode cX5_forget 19 = .ok (.aload_n 0, 1) := by decide +kernel
theorem dX5_forget_20 : decode cX5_forget 20 = .ok (.iconst 0, 1) := by decide +kernel
theorem dX5_forget_21 : decode cX5_forget 21 = .ok (.putfield 65, 3) := by decide +kernel
theorem dX5_forget_24 : decode cX5_forget 24 = .ok (.aload_n 0, 1) := by decide +kernel
theorem dX5_forget_25 : decode cX5_forget 25 = .ok (.ldc2_w 68, 3) := by decide +kernel
theorem dX5_forget_28 : decode cX5_forget 28 = .ok (.putfield 70, 3) := by decide +kernel
theorem dX5_forget_31 : decode cX5_forget 31 = .ok (.aload_n 0, 1) := by decide +kernel
theorem dX5_forget_32 : decode cX5_forget 32 = .ok (.iconst 0, 1) := by decide +kernel
theorem dX5_forget_33 : decode cX5_forget 33 = .ok (.putfield 74, 3) := by decide +kernel
theorem dX5_forget_36 : decode cX5_forget 36 = .ok (.aload_n 0, 1) := by decide +kernel
theorem dX5_forget_37 : decode cX5_forget 37 = .ok (.iconst 0, 1) := by decide +kernel
theorem dX5_forget_38 : decode cX5_forget 38 = .ok (.putfield 77, 3) := by decide +kernel
theorem dX5_forget_41 : decode cX5_forget 41 = .ok (.aload_n 0, 1) := by decide +kernel
theorem dX5_forget_42 : decode cX5_forget 42 = .ok (.iconst 1, 1) := by decide +kernel
theorem dX5_forget_43 : decode cX5_forget 43 = .ok (.putfield 80, 3) := by decide +kernel
theorem dX5_forget_46 : decode cX5_forget 46 = .ok (.aload_n 0, 1) := by decide +kernel
theorem dX5_forget_47 : decode cX5_forget 47 = .ok (.iconst 1, 1) := by decide +kernel
theorem dX5_forget_48 : decode cX5_forget 48 = .ok (.putfield 83, 3) := by decide +kernel
theorem dX5_forget_51 : decode cX5_forget 51 = .ok (.return_, 1) := by decide +kernel
theorem dX5_readPair_0 : decode cX5_readPair 0 = .ok (.aload_n 1, 1) := by decide +kernel
theorem dX5_readPair_1 : decode cX5_readPair 1 = .ok (.bipush 61, 2) := by decide +kernel
theorem dX5_readPair_3 : decode cX5_readPair 3 = .ok (.iconst 0, 1) := by decide +kernel
theorem dX5_readPair_4 : decode cX5_readPair 4 = .ok (.iload_n 2, 1) := by decide +kernel
theorem dX5_readPair_5 : decode cX5_readPair 5 = .ok (.invokevirtual 42, 3) := by decide +kernel
theorem dX5_readPair_8 : decode cX5_readPair 8 = .ok (.istore_n 3, 1) := by decide +kernel
theorem dX5_readPair_9 : decode cX5_readPair 9 = .ok (.aload_n 0, 1) := by decide +kernel
theorem dX5_readPair_10 : decode cX5_readPair 10 = .ok (.iload_n 3, 1) := by decide +kernel
theorem dX5_readPair_11 : decode cX5_readPair 11 = .ok (.iload_n 2, 1) := by decide +kernel
theorem dX5_readPair_12 : decode cX5_readPair 12 = .ok (.if_icmp .ge 7, 3) := by decide +kernel
theorem dX5_readPair_15 : decode cX5_readPair 15 = .ok (.iconst 1, 1) := by decide +kernel
theorem dX5_readPair_16 : decode cX5_readPair 16 = .ok (.goto 4, 3) := by decide +kernel
theorem dX5_readPair_19 : decode cX5_readPair 19 = .ok (.iconst 0, 1) := by decide +kernel
theorem dX5_readPair_20 : decode cX5_readPair 20 = .ok (.putfield 86, 3) := by decide +kernel
theorem dX5_readPair_23 : decode cX5_readPair 23 = .ok (.aload_n 0, 1) := by decide +kernel
theorem dX5_readPair_24 : decode cX5_readPair 24 = .ok (.getfield 14, 3) := by decide +kernel
theorem dX5_readPair_27 : decode cX5_readPair 27 = .ok (.aload_n 1, 1) := by decide +kernel
theorem dX5_readPair_28 : decode cX5_readPair 28 = .ok (.iconst 0, 1) := by decide +kernel
theorem dX5_readPair_29 : decode cX5_readPair 29 = .ok (.iload_n 3, 1) := by decide +kernel
theorem dX5_readPair_30 : decode cX5_readPair 30 = .ok (.invokevirtual 89, 3) := by decide +kernel
theorem dX5_readPair_33 : decode cX5_readPair 33 = .ok (.aload_n 0, 1) := by decide +kernel
theorem dX5_readPair_34 : decode cX5_readPair 34 = .ok (.getfield 20, 3) := by decide +kernel
theorem dX5_readPair_37 : decode cX5_readPair 37 = .ok (.aload_n 1, 1) := by decide +kernel
theorem dX5_readPair_38 : decode cX5_readPair 38 = .ok (.iload_n 3, 1) := by decide +kernel
theorem dX5_readPair_39 : decode cX5_readPair 39 = .ok (.iconst 1, 1) := by decide +kernel
theorem dX5_readPair_40 : decode cX5_readPair 40 = .ok (.iadd, 1) := by decide +kernel
theorem dX5_readPair_41 : decode cX5_readPair 41 = .ok (.iload_n 2, 1) := by decide +kernel
theorem dX5_readPair_42 : decode cX5_readPair 42 = .ok (.invokevirtual 89, 3) := by decide +kernel
theorem dX5_readPair_45 : decode cX5_readPair 45 = .ok (.return_, 1) := by decide +kernel
theorem dX5_readAttribute_0 : decode cX5_readAttribute 0 = .ok (.aload_n 1, 1) := by decide +kernel
theorem dX5_readAttribute_1 : decode cX5_readAttribute 1 = .ok (.bipush 61, 2) := by decide +kernel
theorem dX5_readAttribute_3 : decode cX5_readAttribute 3 = .ok (.iload_n 2, 1) := by decide +kernel
theorem dX5_readAttribute_4 : decode cX5_readAttribute 4 = .ok (.iload_n 3, 1) := by decide +kernel
theorem dX5_readAttribute_5 : decode cX5_readAttribute 5 = .ok (.invokevirtual 42, 3) := by decide +kernel
theorem dX5_readAttribute_8 : decode cX5_readAttribute 8 = .ok (.istore 4, 2) := by decide +kernel
theorem dX5_readAttribute_10 : decode cX5_readAttribute 10 = .ok (.aload_n 0, 1) := by decide +kernel
theorem dX5_readAttribute_11 : decode cX5_readAttribute 11 = .ok (.getfield 29, 3) := by decide +kernel
theorem dX5_readAttribute_14 : decode cX5_readAttribute 14 = .ok (.aload_n 1, 1) := by decide +kernel
theorem dX5_readAttribute_15 : decode cX5_readAttribute 15 = .ok (.iload_n 2, 1) := by decide +kernel
theorem dX5_readAttribute_16 : decode cX5_readAttribute 16 = .ok (.iload 4, 2) := by decide +kernel
theorem dX5_readAttribute_18 : decode cX5_readAttribute 18 = .ok (.invokevirtual 89, 3) := by decide +kernel
theorem dX5_readAttribute_21 : decode cX5_readAttribute 21 = .ok (.aload_n 0, 1) := by decide +kernel
theorem dX5_readAttribute_22 : decode cX5_readAttribute 22 = .ok (.getfield 29, 3) := by decide +kernel
theorem dX5_readAttribute_25 : decode cX5_readAttribute 25 = .ok (.invokevirtual 92, 3) := by decide +kernel
theorem dX5_readAttribute_28 : decode cX5_readAttribute 28 = .ok (.aload_n 0, 1) := by decide +kernel
theorem dX5_readAttribute_29 : decode cX5_readAttribute 29 = .ok (.getfield 32, 3) := by decide +kernel
theorem dX5_readAttribute_32 : decode cX5_readAttribute 32 = .ok (.aload_n 1, 1) := by decide +kernel
theorem dX5_readAttribute_33 : decode cX5_readAttribute 33 = .ok (.iload 4, 2) := by decide +kernel
theorem dX5_readAttribute_35 : decode cX5_readAttribute 35 = .ok (.iconst 1, 1) := by decide +kernel
theorem dX5_readAttribute_36 : decode cX5_readAttribute 36 = .ok (.iadd, 1) := by decide +kernel
theorem dX5_readAttribute_37 : decode cX5_readAttribute 37 = .ok (.iload_n 3, 1) := by decide +kernel
theorem dX5_readAttribute_38 : decode cX5_readAttribute 38 = .ok (.invokevirtual 89, 3) := by decide +kernel
theorem dX5_readAttribute_41 : decode cX5_readAttribute 41 = .ok (.aload_n 0, 1) := by decide +kernel
theorem dX5_readAttribute_42 : decode cX5_readAttribute 42 = .ok (.getfield 29, 3) := by decide +kernel
theorem dX5_readAttribute_45 : decode cX5_readAttribute 45 = .ok (.ldc 95, 2) := by decide +kernel
theorem dX5_readAttribute_47 : decode cX5_readAttribute 47 = .ok (.invokevirtual 97, 3) := by decide +kernel
theorem dX5_readAttribute_50 : decode cX5_readAttribute 50 = .ok (.ifCond .eq 10, 3) := by decide +kernel
theorem dX5_readAttribute_53 : decode cX5_readAttribute 53 = .ok (.aload_n 0, 1) := by decide +kernel
theorem dX5_readAttribute_54 : decode cX5_readAttribute 54 = .ok (.invokevirtual 101, 3) := by decide +kernel
theorem dX5_readAttribute_57 : decode cX5_readAttribute 57 = .ok (.goto 177, 3) := by decide +kernel
theorem dX5_readAttribute_60 : decode cX5_readAttribute 60 = .ok (.aload_n 0, 1) := by decide +kernel
theorem dX5_readAttribute_61 : decode cX5_readAttribute 61 = .ok (.getfield 29, 3) := by decide +kernel
theorem dX5_readAttribute_64 : decode cX5_readAttribute 64 = .ok (.ldc 104, 2) := by decide +kernel
theorem dX5_readAttribute_66 : decode cX5_readAttribute 66 = .ok (.invokevirtual 97, 3) := by decide +kernel
theorem dX5_readAttribute_69 : decode cX5_readAttribute 69 = .ok (.ifCond .eq 10, 3) := by decide +kernel
theorem dX5_readAttribute_72 : decode cX5_readAttribute 72 = .ok (.aload_n 0, 1) := by decide +kernel
theorem dX5_readAttribute_73 : decode cX5_readAttribute 73 = .ok (.invokevirtual 106, 3) := by decide +kernel
theorem dX5_readAttribute_76 : decode cX5_readAttribute 76 = .ok (.goto 158, 3) := by decide +kernel
theorem dX5_readAttribute_79 : decode cX5_readAttribute 79 = .ok (.aload_n 0, 1) := by decide +kernel
theorem dX5_readAttribute_80 : decode cX5_readAttribute 80 = .ok (.getfield 29, 3) := by decide +kernel
theorem dX5_readAttribute_83 : decode cX5_readAttribute 83 = .ok (.ldc 109, 2) := by decide +kernel
theorem dX5_readAttribute_85 : decode cX5_readAttribute 85 = .ok (.invokevirtual 97, 3) := by decide +kernel
theorem dX5_readAttribute_88 : decode cX5_readAttribute 88 = .ok (.ifCond .eq 10, 3) := by decide +kernel
theorem dX5_readAttribute_91 : decode cX5_readAttribute 91 = .ok (.aload_n 0, 1) := by decide +kernel
theorem dX5_readAttribute_92 : decode cX5_readAttribute 92 = .ok (.invokevirtual 110, 3) := by decide +kernel
theorem dX5_readAttribute_95 : decode cX5_readAttribute 95 = .ok (.goto 139, 3) := by decide +kernel
theorem dX5_readAttribute_98 : decode cX5_readAttribute 98 = .ok (.aload_n 0, 1) := by decide +kernel
theorem dX5_readAttribute_99 : decode cX5_readAttribute 99 = .ok (.getfield 29, 3) := by decide +kernel
theorem dX5_readAttribute_102 : decode cX5_readAttribute 102 = .ok (.ldc 113, 2) := by decide +kernel
theorem dX5_readAttribute_104 : decode cX5_readAttribute 104 = .ok (.invokevirtual 97, 3) := by decide +kernel
theorem dX5_readAttribute_107 : decode cX5_readAttribute 107 = .ok (.ifCond .eq 10, 3) := by decide +kernel
theorem dX5_readAttribute_110 : decode cX5_readAttribute 110 = .ok (.aload_n 0, 1) := by decide +kernel
theorem dX5_readAttribute_111 : decode cX5_readAttribute 111 = .ok (.invokevirtual 114, 3) := by decide +kernel
theorem dX5_readAttribute_114 : decode cX5_readAttribute 114 = .ok (.goto 120, 3) := by decide +kernel
theorem dX5_readAttribute_117 : decode cX5_readAttribute 117 = .ok (.aload_n 0, 1) := by decide +kernel
theorem dX5_readAttribute_118 : decode cX5_readAttribute 118 = .ok (.getfield 29, 3) := by decide +kernel
theorem dX5_readAttribute_121 : decode cX5_readAttribute 121 = .ok (.ldc 117, 2) := by decide +kernel
theorem dX5_readAttribute_123 : decode cX5_readAttribute 123 = .ok (.invokevirtual 97, 3) := by decide +kernel
theorem dX5_readAttribute_126 : decode cX5_readAttribute 126 = .ok (.ifCond .eq 11, 3) := by decide +kernel
theorem dX5_readAttribute_129 : decode cX5_readAttribute 129 = .ok (.aload_n 0, 1) := by decide +kernel
theorem dX5_readAttribute_130 : decode cX5_readAttribute 130 = .ok (.iconst 1, 1) := by decide +kernel
theorem dX5_readAttribute_131 : decode cX5_readAttribute 131 = .ok (.putfield 74, 3) := by decide +kernel
theorem dX5_readAttribute_134 : decode cX5_readAttribute 134 = .ok (.goto 100, 3) := by decide +kernel
theorem dX5_readAttribute_137 : decode cX5_readAttribute 137 = .ok (.aload_n 0, 1) := by decide +kernel
theorem dX5_readAttribute_138 : decode cX5_readAttribute 138 = .ok (.getfield 29, 3) := by decide +kernel
theorem dX5_readAttribute_141 : decode cX5_readAttribute 141 = .ok (.ldc 118, 2) := by decide +kernel
theorem dX5_readAttribute_143 : decode cX5_readAttribute 143 = .ok (.invokevirtual 97, 3) := by decide +kernel
theorem dX5_readAttribute_146 : decode cX5_readAttribute 146 = .ok (.ifCond .eq 11, 3) := by decide +kernel
theorem dX5_readAttribute_149 : decode cX5_readAttribute 149 = .ok (.aload_n 0, 1) := by decide +kernel
theorem dX5_readAttribute_150 : decode cX5_readAttribute 150 = .ok (.iconst 1, 1) := by decide +kernel
theorem dX5_readAttribute_151 : decode cX5_readAttribute 151 = .ok (.putfield 77, 3) := by decide +kernel
theorem dX5_readAttribute_154 : decode cX5_readAttribute 154 = .ok (.goto 80, 3) := by decide +kernel
theorem dX5_readAttribute_157 : decode cX5_readAttribute 157 = .ok (.aload_n 0, 1) := by decide +kernel
theorem dX5_readAttribute_158 : decode cX5_readAttribute 158 = .ok (.getfield 29, 3) := by decide +kernel
theorem dX5_readAttribute_161 : decode cX5_readAttribute 161 = .ok (.ldc 120, 2) := by decide +kernel
theorem dX5_readAttribute_163 : decode cX5_readAttribute 163 = .ok (.invokevirtual 97, 3) := by decide +kernel
theorem dX5_readAttribute_166 : decode cX5_readAttribute 166 = .ok (.ifCond .eq 31, 3) := by decide +kernel
theorem dX5_readAttribute_169 : decode cX5_readAttribute 169 = .ok (.aload_n 0, 1) := by decide +kernel
theorem dX5_readAttribute_170 : decode cX5_readAttribute 170 = .ok (.getfield 32, 3) := by decide +kernel
theorem dX5_readAttribute_173 : decode cX5_readAttribute 173 = .ok (.invokevirtual 92, 3) := by decide +kernel
theorem dX5_readAttribute_176 : decode cX5_readAttribute 176 = .ok (.aload_n 0, 1) := by decide +kernel
theorem dX5_readAttribute_177 : decode cX5_readAttribute 177 = .ok (.aload_n 0, 1) := by decide +kernel
theorem dX5_readAttribute_178 : decode cX5_readAttribute 178 = .ok (.ldc 122, 2) := by decide +kernel
theorem dX5_readAttribute_180 : decode cX5_readAttribute 180 = .ok (.ldc 124, 2) := by decide +kernel
theorem dX5_readAttribute_182 : decode cX5_readAttribute 182 = .ok (.ldc 126, 2) := by decide +kernel
theorem dX5_readAttribute_184 : decode cX5_readAttribute 184 = .ok (.aload_n 0, 1) := by decide +kernel
theorem dX5_readAttribute_185 : decode cX5_readAttribute 185 = .ok (.getfield 80, 3) := by decide +kernel
theorem dX5_readAttribute_188 : decode cX5_readAttribute 188 = .ok (.invokevirtual 128, 3) := by decide +kernel
theorem dX5_readAttribute_191 : decode cX5_readAttribute 191 = .ok (.putfield 80, 3) := by decide +kernel
theorem dX5_readAttribute_194 : decode cX5_readAttribute 194 = .ok (.goto 40, 3) := by decide +kernel
theorem dX5_readAttribute_197 : decode cX5_readAttribute 197 = .ok (.aload_n 0, 1) := by decide +kernel
theorem dX5_readAttribute_198 : decode cX5_readAttribute 198 = .ok (.getfield 29, 3) := by decide +kernel
theorem dX5_readAttribute_201 : decode cX5_readAttribute 201 = .ok (.ldc 132, 2) := by decide +kernel
theorem dX5_readAttribute_203 : decode cX5_readAttribute 203 = .ok (.invokevirtual 97, 3) := by decide +kernel
theorem dX5_readAttribute_206 : decode cX5_readAttribute 206 = .ok (.ifCond .eq 28, 3) := by decide +kernel
theorem dX5_readAttribute_209 : decode cX5_readAttribute 209 = .ok (.aload_n 0, 1) := by decide +kernel
theorem dX5_readAttribute_210 : decode cX5_readAttribute 210 = .ok (.getfield 32, 3) := by decide +kernel
theorem dX5_readAttribute_213 : decode cX5_readAttribute 213 = .ok (.invokevirtual 92, 3) := by decide +kernel
theorem dX5_readAttribute_216 : decode cX5_readAttribute 216 = .ok (.aload_n 0, 1) := by decide +kernel
theorem dX5_readAttribute_217 : decode cX5_readAttribute 217 = .ok (.aload_n 0, 1) := by decide +kernel
theorem dX5_readAttribute_218 : decode cX5_readAttribute 218 = .ok (.ldc 134, 2) := by decide +kernel
theorem dX5_readAttribute_220 : decode cX5_readAttribute 220 = .ok (.ldc 136, 2) := by decide +kernel
theorem dX5_readAttribute_222 : decode cX5_readAttribute 222 = .ok (.ldc 138, 2) := by decide +kernel
theorem dX5_readAttribute_224 : decode cX5_readAttribute 224 = .ok (.aload_n 0, 1) := by decide +kernel
theorem dX5_readAttribute_225 : decode cX5_readAttribute 225 = .ok (.getfield 83, 3) := by decide +kernel
theorem dX5_readAttribute_228 : decode cX5_readAttribute 228 = .ok (.invokevirtual 128, 3) := by decide +kernel
theorem dX5_readAttribute_231 : decode cX5_readAttribute 231 = .ok (.putfield 83, 3) := by decide +kernel
theorem dX5_readAttribute_234 : decode cX5_readAttribute 234 = .ok (.return_, 1) := by decide +kernel
theorem dX5_oneOf_0 : decode cX5_oneOf 0 = .ok (.aload_n 0, 1) := by decide +kernel
theorem dX5_oneOf_1 : decode cX5_oneOf 1 = .ok (.getfield 32, 3) := by decide +kernel
theorem dX5_oneOf_4 : decode cX5_oneOf 4 = .ok (.aload_n 1, 1) := by decide +kernel
theorem dX5_oneOf_5 : decode cX5_oneOf 5 = .ok (.invokevirtual 97, 3) := by decide +kernel
theorem dX5_oneOf_8 : decode cX5_oneOf 8 = .ok (.ifCond .eq 5, 3) := by decide +kernel
theorem dX5_oneOf_11 : decode cX5_oneOf 11 = .ok (.iconst 0, 1) := by decide +kernel
theorem dX5_oneOf_12 : decode cX5_oneOf 12 = .ok (.ireturn, 1) := by decide +kernel
theorem dX5_oneOf_13 : decode cX5_oneOf 13 = .ok (.aload_n 0, 1) := by decide +kernel
theorem dX5_oneOf_14 : decode cX5_oneOf 14 = .ok (.getfield 32, 3) := by decide +kernel
theorem dX5_oneOf_17 : decode cX5_oneOf 17 = .ok (.aload_n 2, 1) := by decide +kernel
theorem dX5_oneOf_18 : decode cX5_oneOf 18 = .ok (.invokevirtual 97, 3) := by decide +kernel
theorem dX5_oneOf_21 : decode cX5_oneOf 21 = .ok (.ifCond .eq 5, 3) := by decide +kernel
theorem dX5_oneOf_24 : decode cX5_oneOf 24 = .ok (.iconst 1, 1) := by decide +kernel
theorem dX5_oneOf_25 : decode cX5_oneOf 25 = .ok (.ireturn, 1) := by decide +kernel
theorem dX5_oneOf_26 : decode cX5_oneOf 26 = .ok (.aload_n 0, 1) := by decide +kernel
theorem dX5_oneOf_27 : decode cX5_oneOf 27 = .ok (.getfield 32, 3) := by decide +kernel
theorem dX5_oneOf_30 : decode cX5_oneOf 30 = .ok (.aload_n 3, 1) := by decide +kernel
theorem dX5_oneOf_31 : decode cX5_oneOf 31 = .ok (.invokevirtual 97, 3) := by decide +kernel
theorem dX5_oneOf_34 : decode cX5_oneOf 34 = .ok (.ifCond .eq 7, 3) := by decide +kernel
theorem dX5_oneOf_37 : decode cX5_oneOf 37 = .ok (.iconst 2, 1) := by decide +kernel
theorem dX5_oneOf_38 : decode cX5_oneOf 38 = .ok (.goto 5, 3) := by decide +kernel
theorem dX5_oneOf_41 : decode cX5_oneOf 41 = .ok (.iload 4, 2) := by decide +kernel
theorem dX5_oneOf_43 : decode cX5_oneOf 43 = .ok (.ireturn, 1) := by decide +kernel
theorem dX5_readExpires_0 : decode cX5_readExpires 0 = .ok (.aload_n 0, 1) := by decide +kernel
theorem dX5_readExpires_1 : decode cX5_readExpires 1 = .ok (.getfield 32, 3) := by decide +kernel
theorem dX5_readExpires_4 : decode cX5_readExpires 4 = .ok (.invokestatic 140, 3) := by decide +kernel
theorem dX5_readExpires_7 : decode cX5_readExpires 7 = .ok (.lstore_n 1, 1) := by decide +kernel
theorem dX5_readExpires_8 : decode cX5_readExpires 8 = .ok (.lload_n 1, 1) := by decide +kernel
theorem dX5_readExpires_9 : decode cX5_readExpires 9 = .ok (.lconst 0, 1) := by decide +kernel
theorem dX5_readExpires_10 : decode cX5_readExpires 10 = .ok (.lcmp, 1) := by decide +kernel
theorem dX5_readExpires_11 : decode cX5_readExpires 11 = .ok (.ifCond .lt 8, 3) := by decide +kernel
theorem dX5_readExpires_14 : decode cX5_readExpires 14 = .ok (.aload_n 0, 1) := by decide +kernel
theorem dX5_readExpires_15 : decode cX5_readExpires 15 = .ok (.lload_n 1, 1) := by decide +kernel
theorem dX5_readExpires_16 : decode cX5_readExpires 16 = .ok (.putfield 70, 3) := by decide +kernel
theorem dX5_readExpires_19 : decode cX5_readExpires 19 = .ok (.return_, 1) := by decide +kernel
theorem dX5_readAge_0 : decode cX5_readAge 0 = .ok (.aload_n 0, 1) := by decide +kernel
theorem dX5_readAge_1 : decode cX5_readAge 1 = .ok (.getfield 32, 3) := by decide +kernel
theorem dX5_readAge_4 : decode cX5_readAge 4 = .ok (.iconst 0, 1) := by decide +kernel
theorem dX5_readAge_5 : decode cX5_readAge 5 = .ok (.invokevirtual 50, 3) := by decide +kernel
theorem dX5_readAge_8 : decode cX5_readAge 8 = .ok (.bipush 45, 2) := by decide +kernel
theorem dX5_readAge_10 : decode cX5_readAge 10 = .ok (.if_icmp .ne 7, 3) := by decide +kernel
theorem dX5_readAge_13 : decode cX5_readAge 13 = .ok (.iconst 1, 1) := by decide +kernel
theorem dX5_readAge_14 : decode cX5_readAge 14 = .ok (.goto 4, 3) := by decide +kernel
theorem dX5_readAge_17 : decode cX5_readAge 17 = .ok (.iconst 0, 1) := by decide +kernel
theorem dX5_readAge_18 : decode cX5_readAge 18 = .ok (.istore_n 1, 1) := by decide +kernel
theorem dX5_readAge_19 : decode cX5_readAge 19 = .ok (.iload_n 1, 1) := by decide +kernel
theorem dX5_readAge_20 : decode cX5_readAge 20 = .ok (.ifCond .eq 7, 3) := by decide +kernel
theorem dX5_readAge_23 : decode cX5_readAge 23 = .ok (.iconst 1, 1) := by decide +kernel
theorem dX5_readAge_24 : decode cX5_readAge 24 = .ok (.goto 4, 3) := by decide +kernel
theorem dX5_readAge_27 : decode cX5_readAge 27 = .ok (.iconst 0, 1) := by decide +kernel
theorem dX5_readAge_28 : decode cX5_readAge 28 = .ok (.istore_n 2, 1) := by decide +kernel
theorem dX5_readAge_29 : decode cX5_readAge 29 = .ok (.aload_n 0, 1) := by decide +kernel
theorem dX5_readAge_30 : decode cX5_readAge 30 = .ok (.getfield 32, 3) := by decide +kernel
theorem dX5_readAge_33 : decode cX5_readAge 33 = .ok (.getfield 38, 3) := by decide +kernel
theorem dX5_readAge_36 : decode cX5_readAge 36 = .ok (.iload_n 2, 1) := by decide +kernel
theorem dX5_readAge_37 : decode cX5_readAge 37 = .ok (.isub, 1) := by decide +kernel
theorem dX5_readAge_38 : decode cX5_readAge 38 = .ok (.istore_n 3, 1) := by decide +kernel
theorem dX5_readAge_39 : decode cX5_readAge 39 = .ok (.iload_n 3, 1) := by decide +kernel
theorem dX5_readAge_40 : decode cX5_readAge 40 = .ok (.iconst 1, 1) := by decide +kernel
theorem dX5_readAge_41 : decode cX5_readAge 41 = .ok (.if_icmp .lt 9, 3) := by decide +kernel
theorem dX5_readAge_44 : decode cX5_readAge 44 = .ok (.iload_n 3, 1) := by decide +kernel
theorem dX5_readAge_45 : decode cX5_readAge 45 = .ok (.bipush 9, 2) := by decide +kernel
theorem dX5_readAge_47 : decode cX5_readAge 47 = .ok (.if_icmp .le 4, 3) := by decide +kernel
theorem dX5_readAge_50 : decode cX5_readAge 50 = .ok (.return_, 1) := by decide +kernel
theorem dX5_readAge_51 : decode cX5_readAge 51 = .ok (.aload_n 0, 1) := by decide +kernel
theorem dX5_readAge_52 : decode cX5_readAge 52 = .ok (.getfield 32, 3) := by decide +kernel
theorem dX5_readAge_55 : decode cX5_readAge 55 = .ok (.iload_n 2, 1) := by decide +kernel
theorem dX5_readAge_56 : decode cX5_readAge 56 = .ok (.aload_n 0, 1) := by decide +kernel
theorem dX5_readAge_57 : decode cX5_readAge 57 = .ok (.getfield 32, 3) := by decide +kernel
theorem dX5_readAge_60 : decode cX5_readAge 60 = .ok (.getfield 38, 3) := by decide +kernel
theorem dX5_readAge_63 : decode cX5_readAge 63 = .ok (.invokevirtual 146, 3) := by decide +kernel
theorem dX5_readAge_66 : decode cX5_readAge 66 = .ok (.istore 4, 2) := by decide +kernel
theorem dX5_readAge_68 : decode cX5_readAge 68 = .ok (.iload 4, 2) := by decide +kernel
theorem dX5_readAge_70 : decode cX5_readAge 70 = .ok (.ifCond .lt 24, 3) := by decide +kernel
theorem dX5_readAge_73 : decode cX5_readAge 73 = .ok (.aload_n 0, 1) := by decide +kernel
theorem dX5_readAge_74 : decode cX5_readAge 74 = .ok (.iconst 1, 1) := by decide +kernel
theorem dX5_readAge_75 : decode cX5_readAge 75 = .ok (.putfield 61, 3) := by decide +kernel
theorem dX5_readAge_78 : decode cX5_readAge 78 = .ok (.aload_n 0, 1) := by decide +kernel
theorem dX5_readAge_79 : decode cX5_readAge 79 = .ok (.iload_n 1, 1) := by decide +kernel
theorem dX5_readAge_80 : decode cX5_readAge 80 = .ok (.ifCond .eq 9, 3) := by decide +kernel
theorem dX5_readAge_83 : decode cX5_readAge 83 = .ok (.iload 4, 2) := by decide +kernel
theorem dX5_readAge_85 : decode cX5_readAge 85 = .ok (.ineg, 1) := by decide +kernel
theorem dX5_readAge_86 : decode cX5_readAge 86 = .ok (.goto 5, 3) := by decide +kernel
theorem dX5_readAge_89 : decode cX5_readAge 89 = .ok (.iload 4, 2) := by decide +kernel
theorem dX5_readAge_91 : decode cX5_readAge 91 = .ok (.putfield 65, 3) := by decide +kernel
theorem dX5_readAge_94 : decode cX5_readAge 94 = .ok (.return_, 1) := by decide +kernel
theorem dX5_readDomain_0 : decode cX5_readDomain 0 = .ok (.aload_n 0, 1) := by decide +kernel
theorem dX5_readDomain_1 : decode cX5_readDomain 1 = .ok (.getfield 32, 3) := by decide +kernel
theorem dX5_readDomain_4 : decode cX5_readDomain 4 = .ok (.iconst 0, 1) := by decide +kernel
theorem dX5_readDomain_5 : decode cX5_readDomain 5 = .ok (.invokevirtual 50, 3) := by decide +kernel
theorem dX5_readDomain_8 : decode cX5_readDomain 8 = .ok (.bipush 46, 2) := by decide +kernel
theorem dX5_readDomain_10 : decode cX5_readDomain 10 = .ok (.if_icmp .ne 7, 3) := by decide +kernel
theorem dX5_readDomain_13 : decode cX5_readDomain 13 = .ok (.iconst 1, 1) := by decide +kernel
theorem dX5_readDomain_14 : decode cX5_readDomain 14 = .ok (.goto 4, 3) := by decide +kernel
theorem dX5_readDomain_17 : decode cX5_readDomain 17 = .ok (.iconst 0, 1) := by decide +kernel
theorem dX5_readDomain_18 : decode cX5_readDomain 18 = .ok (.istore_n 1, 1) := by decide +kernel
theorem dX5_readDomain_19 : decode cX5_readDomain 19 = .ok (.aload_n 0, 1) := by decide +kernel
theorem dX5_readDomain_20 : decode cX5_readDomain 20 = .ok (.getfield 32, 3) := by decide +kernel
theorem dX5_readDomain_23 : decode cX5_readDomain 23 = .ok (.getfield 38, 3) := by decide +kernel
theorem dX5_readDomain_26 : decode cX5_readDomain 26 = .ok (.iload_n 1, 1) := by decide +kernel
theorem dX5_readDomain_27 : decode cX5_readDomain 27 = .ok (.if_icmp .le 29, 3) := by decide +kernel
theorem dX5_readDomain_30 : decode cX5_readDomain 30 = .ok (.aload_n 0, 1) := by decide +kernel
theorem dX5_readDomain_31 : decode cX5_readDomain 31 = .ok (.getfield 23, 3) := by decide +kernel
theorem dX5_readDomain_34 : decode cX5_readDomain 34 = .ok (.aload_n 0, 1) := by decide +kernel
theorem dX5_readDomain_35 : decode cX5_readDomain 35 = .ok (.getfield 32, 3) := by decide +kernel
theorem dX5_readDomain_38 : decode cX5_readDomain 38 = .ok (.iload_n 1, 1) := by decide +kernel
theorem dX5_readDomain_39 : decode cX5_readDomain 39 = .ok (.aload_n 0, 1) := by decide +kernel
theorem dX5_readDomain_40 : decode cX5_readDomain 40 = .ok (.getfield 32, 3) := by decide +kernel
theorem dX5_readDomain_43 : decode cX5_readDomain 43 = .ok (.getfield 38, 3) := by decide +kernel
theorem dX5_readDomain_46 : decode cX5_readDomain 46 = .ok (.invokevirtual 150, 3) := by decide +kernel
theorem dX5_readDomain_49 : decode cX5_readDomain 49 = .ok (.aload_n 0, 1) := by decide +kernel
theorem dX5_readDomain_50 : decode cX5_readDomain 50 = .ok (.getfield 23, 3) := by decide +kernel
theorem dX5_readDomain_53 : decode cX5_readDomain 53 = .ok (.invokevirtual 92, 3) := by decide +kernel
theorem dX5_readDomain_56 : decode cX5_readDomain 56 = .ok (.return_, 1) := by decide +kernel
theorem dX5_readPath_0 : decode cX5_readPath 0 = .ok (.aload_n 0, 1) := by decide +kernel
theorem dX5_readPath_1 : decode cX5_readPath 1 = .ok (.getfield 32, 3) := by decide +kernel
theorem dX5_readPath_4 : decode cX5_readPath 4 = .ok (.iconst 0, 1) := by decide +kernel
theorem dX5_readPath_5 : decode cX5_readPath 5 = .ok (.invokevirtual 50, 3) := by decide +kernel
theorem dX5_readPath_8 : decode cX5_readPath 8 = .ok (.bipush 47, 2) := by decide +kernel
theorem dX5_readPath_10 : decode cX5_readPath 10 = .ok (.if_icmp .ne 26, 3) := by decide +kernel
theorem dX5_readPath_13 : decode cX5_readPath 13 = .ok (.aload_n 0, 1) := by decide +kernel
theorem dX5_readPath_14 : decode cX5_readPath 14 = .ok (.getfield 32, 3) := by decide +kernel
theorem dX5_readPath_17 : decode cX5_readPath 17 = .ok (.getfield 38, 3) := by decide +kernel
theorem dX5_readPath_20 : decode cX5_readPath 20 = .ok (.bipush 40, 2) := by decide +kernel
theorem dX5_readPath_22 : decode cX5_readPath 22 = .ok (.if_icmp .gt 14, 3) := by decide +kernel
theorem dX5_readPath_25 : decode cX5_readPath 25 = .ok (.aload_n 0, 1) := by decide +kernel
theorem dX5_readPath_26 : decode cX5_readPath 26 = .ok (.getfield 26, 3) := by decide +kernel
theorem dX5_readPath_29 : decode cX5_readPath 29 = .ok (.aload_n 0, 1) := by decide +kernel
theorem dX5_readPath_30 : decode cX5_readPath 30 = .ok (.getfield 32, 3) := by decide +kernel
theorem dX5_readPath_33 : decode cX5_readPath 33 = .ok (.invokevirtual 153, 3) := by decide +kernel
theorem dX5_readPath_36 : decode cX5_readPath 36 = .ok (.return_, 1) := by decide +kernel
theorem dX5_isExpiredAt_0 : decode cX5_isExpiredAt 0 = .ok (.aload_n 0, 1) := by decide +kernel
theorem dX5_isExpiredAt_1 : decode cX5_isExpiredAt 1 = .ok (.getfield 61, 3) := by decide +kernel
theorem dX5_isExpiredAt_4 : decode cX5_isExpiredAt 4 = .ok (.ifCond .eq 18, 3) := by decide +kernel
theorem dX5_isExpiredAt_7 : decode cX5_isExpiredAt 7 = .ok (.aload_n 0, 1) := by decide +kernel
theorem dX5_isExpiredAt_8 : decode cX5_isExpiredAt 8 = .ok (.getfield 65, 3) := by decide +kernel
theorem dX5_isExpiredAt_11 : decode cX5_isExpiredAt 11 = .ok (.ifCond .gt 7, 3) := by decide +kernel
theorem dX5_isExpiredAt_14 : decode cX5_isExpiredAt 14 = .ok (.iconst 1, 1) := by decide +kernel
theorem dX5_isExpiredAt_15 : decode cX5_isExpiredAt 15 = .ok (.goto 30, 3) := by decide +kernel
theorem dX5_isExpiredAt_18 : decode cX5_isExpiredAt 18 = .ok (.iconst 0, 1) := by decide +kernel
theorem dX5_isExpiredAt_19 : decode cX5_isExpiredAt 19 = .ok (.goto 26, 3) := by decide +kernel
theorem dX5_isExpiredAt_22 : decode cX5_isExpiredAt 22 = .ok (.aload_n 0, 1) := by decide +kernel
theorem dX5_isExpiredAt_23 : decode cX5_isExpiredAt 23 = .ok (.getfield 70, 3) := by decide +kernel
theorem dX5_isExpiredAt_26 : decode cX5_isExpiredAt 26 = .ok (.lconst 0, 1) := by decide +kernel
theorem dX5_isExpiredAt_27 : decode cX5_isExpiredAt 27 = .ok (.lcmp, 1) := by decide +kernel
theorem dX5_isExpiredAt_28 : decode cX5_isExpiredAt 28 = .ok (.ifCond .lt 16, 3) := by decide +kernel
theorem dX5_isExpiredAt_31 : decode cX5_isExpiredAt 31 = .ok (.aload_n 0, 1) := by decide +kernel
theorem dX5_isExpiredAt_32 : decode cX5_isExpiredAt 32 = .ok (.getfield 70, 3) := by decide +kernel
theorem dX5_isExpiredAt_35 : decode cX5_isExpiredAt 35 = .ok (.lload_n 1, 1) := by decide +kernel
theorem dX5_isExpiredAt_36 : decode cX5_isExpiredAt 36 = .ok (.lcmp, 1) := by decide +kernel
theorem dX5_isExpiredAt_37 : decode cX5_isExpiredAt 37 = .ok (.ifCond .gt 7, 3) := by decide +kernel
theorem dX5_isExpiredAt_40 : decode cX5_isExpiredAt 40 = .ok (.iconst 1, 1) := by decide +kernel
theorem dX5_isExpiredAt_41 : decode cX5_isExpiredAt 41 = .ok (.goto 4, 3) := by decide +kernel
theorem dX5_isExpiredAt_44 : decode cX5_isExpiredAt 44 = .ok (.iconst 0, 1) := by decide +kernel
theorem dX5_isExpiredAt_45 : decode cX5_isExpiredAt 45 = .ok (.ireturn, 1) := by decide +kernel
theorem dX5_expiryAt_0 : decode cX5_expiryAt 0 = .ok (.aload_n 0, 1) := by decide +kernel
theorem dX5_expiryAt_1 : decode cX5_expiryAt 1 = .ok (.getfield 61, 3) := by decide +kernel
theorem dX5_expiryAt_4 : decode cX5_expiryAt 4 = .ok (.ifCond .eq 16, 3) := by decide +kernel
theorem dX5_expiryAt_7 : decode cX5_expiryAt 7 = .ok (.lload_n 1, 1) := by decide +kernel
theorem dX5_expiryAt_8 : decode cX5_expiryAt 8 = .ok (.aload_n 0, 1) := by decide +kernel
theorem dX5_expiryAt_9 : decode cX5_expiryAt 9 = .ok (.getfield 65, 3) := by decide +kernel
theorem dX5_expiryAt_12 : decode cX5_expiryAt 12 = .ok (.ldc 157, 2) := by decide +kernel
theorem dX5_expiryAt_14 : decode cX5_expiryAt 14 = .ok (.invokestatic 158, 3) := by decide +kernel
theorem dX5_expiryAt_17 : decode cX5_expiryAt 17 = .ok (.i2l, 1) := by decide +kernel
theorem dX5_expiryAt_18 : decode cX5_expiryAt 18 = .ok (.ladd, 1) := by decide +kernel
theorem dX5_expiryAt_19 : decode cX5_expiryAt 19 = .ok (.lreturn, 1) := by decide +kernel
theorem dX5_expiryAt_20 : decode cX5_expiryAt 20 = .ok (.aload_n 0, 1) := by decide +kernel
theorem dX5_expiryAt_21 : decode cX5_expiryAt 21 = .ok (.getfield 70, 3) := by decide +kernel
theorem dX5_expiryAt_24 : decode cX5_expiryAt 24 = .ok (.lconst 0, 1) := by decide +kernel
theorem dX5_expiryAt_25 : decode cX5_expiryAt 25 = .ok (.lcmp, 1) := by decide +kernel
theorem dX5_expiryAt_26 : decode cX5_expiryAt 26 = .ok (.ifCond .lt 18, 3) := by decide +kernel
theorem dX5_expiryAt_29 : decode cX5_expiryAt 29 = .ok (.aload_n 0, 1) := by decide +kernel
theorem dX5_expiryAt_30 : decode cX5_expiryAt 30 = .ok (.getfield 70, 3) := by decide +kernel
theorem dX5_expiryAt_33 : decode cX5_expiryAt 33 = .ok (.lload_n 1, 1) := by decide +kernel
theorem dX5_expiryAt_34 : decode cX5_expiryAt 34 = .ok (.ldc2_w 163, 3) := by decide +kernel
theorem dX5_expiryAt_37 : decode cX5_expiryAt 37 = .ok (.ladd, 1) := by decide +kernel
theorem dX5_expiryAt_38 : decode cX5_expiryAt 38 = .ok (.invokestatic 165, 3) := by decide +kernel
theorem dX5_expiryAt_41 : decode cX5_expiryAt 41 = .ok (.goto 6, 3) := by decide +kernel
theorem dX5_expiryAt_44 : decode cX5_expiryAt 44 = .ok (.ldc2_w 68, 3) := by decide +kernel
theorem dX5_expiryAt_47 : decode cX5_expiryAt 47 = .ok (.lreturn, 1) := by decide +kernel
theorem dX6_init_0 : decode cX6_init 0 = .ok (.aload_n 0, 1) := by decide +kernel
theorem dX6_init_1 : decode cX6_init 1 = .ok (.invokespecial 3, 3) := by decide +kernel
theorem dX6_init_4 : decode cX6_init 4 = .ok (.aload_n 0, 1) := by decide +kernel
theorem dX6_init_5 : decode cX6_init 5 = .ok (.iload_n 1, 1) := by decide +kernel
theorem dX6_init_6 : decode cX6_init 6 = .ok (.iconst 0, 1) := by decide +kernel
theorem dX6_init_7 : decode cX6_init 7 = .ok (.invokestatic 9, 3) := by decide +kernel
theorem dX6_init_10 : decode cX6_init 10 = .ok (.newarray .char, 2) := by decide +kernel
theorem dX6_init_12 : decode cX6_init 12 = .ok (.putfield 15, 3) := by decide +kernel
theorem dX6_init_15 : decode cX6_init 15 = .ok (.aload_n 0, 1) := by decide +kernel
theorem dX6_init_16 : decode cX6_init 16 = .ok (.iconst 0, 1) := by decide +kernel
theorem dX6_init_17 : decode cX6_init 17 = .ok (.putfield 21, 3) := by decide +kernel
theorem dX6_init_20 : decode cX6_init 20 = .ok (.return_, 1) := by decide +kernel
theorem dX6_at_0 : decode cX6_at 0 = .ok (.iload_n 1, 1) := by decide +kernel
theorem dX6_at_1 : decode cX6_at 1 = .ok (.ifCond .lt 29, 3) := by decide +kernel
theorem dX6_at_4 : decode cX6_at 4 = .ok (.iload_n 1, 1) := by decide +kernel
theorem dX6_at_5 : decode cX6_at 5 = .ok (.aload_n 0, 1) := by decide +kernel
theorem dX6_at_6 : decode cX6_at 6 = .ok (.getfield 21, 3) := by decide +kernel
theorem dX6_at_9 : decode cX6_at 9 = .ok (.if_icmp .ge 21, 3) := by decide +kernel
theorem dX6_at_12 : decode cX6_at 12 = .ok (.iload_n 1, 1) := by decide +kernel
theorem dX6_at_13 : decode cX6_at 13 = .ok (.aload_n 0, 1) := by decide +kernel
theorem dX6_at_14 : decode cX6_at 14 = .ok (.getfield 15, 3) := by decide +kernel
theorem dX6_at_17 : decode cX6_at 17 = .ok (.arraylength, 1) := by decide +kernel
theorem dX6_at_18 : decode cX6_at 18 = .ok (.if_icmp .ge 12, 3) := by decide +kernel
theorem dX6_at_21 : decode cX6_at 21 = .ok (.aload_n 0, 1) := by decide +kernel
theorem dX6_at_22 : decode cX6_at 22 = .ok (.getfield 15, 3) := by decide +kernel
theorem dX6_at_25 : decode cX6_at 25 = .ok (.iload_n 1, 1) := by decide +kernel
theorem dX6_at_26 : decode cX6_at 26 = .ok (.caload, 1) := by decide +kernel
theorem dX6_at_27 : decode cX6_at 27 = .ok (.goto 4, 3) := by decide +kernel
theorem dX6_at_30 : decode cX6_at 30 = .ok (.iconst (-1), 1) := by decide +kernel
theorem dX6_at_31 : decode cX6_at 31 = .ok (.ireturn, 1) := by decide +kernel
theorem dX6_add_0 : decode cX6_add 0 = .ok (.aload_n 0, 1) := by decide +kernel
theorem dX6_add_1 : decode cX6_add 1 = .ok (.getfield 21, 3) := by decide +kernel
theorem dX6_add_4 : decode cX6_add 4 = .ok (.ifCond .lt 36, 3) := by decide +kernel
theorem dX6_add_7 : decode cX6_add 7 = .ok (.aload_n 0, 1) := by decide +kernel
theorem dX6_add_8 : decode cX6_add 8 = .ok (.getfield 21, 3) := by decide +kernel
theorem dX6_add_11 : decode cX6_add 11 = .ok (.aload_n 0, 1) := by decide +kernel
theorem dX6_add_12 : decode cX6_add 12 = .ok (.getfield 15, 3) := by decide +kernel
theorem dX6_add_15 : decode cX6_add 15 = .ok (.arraylength, 1) := by decide +kernel
theorem dX6_add_16 : decode cX6_add 16 = .ok (.if_icmp .ge 24, 3) := by decide +kernel
theorem dX6_add_19 : decode cX6_add 19 = .ok (.aload_n 0, 1) := by decide +kernel
theorem dX6_add_20 : decode cX6_add 20 = .ok (.getfield 15, 3) := by decide +kernel
theorem dX6_add_23 : decode cX6_add 23 = .ok (.aload_n 0, 1) := by decide +kernel
theorem dX6_add_24 : decode cX6_add 24 = .ok (.getfield 21, 3) := by decide +kernel
theorem dX6_add_27 : decode cX6_add 27 = .ok (.iload_n 1, 1) := by decide +kernel
theorem dX6_add_28 : decode cX6_add 28 = .ok (.i2c, 1) := by decide +kernel
theorem dX6_add_29 : decode cX6_add 29 = .ok (.castore, 1) := by decide +kernel
theorem dX6_add_30 : decode cX6_add 30 = .ok (.aload_n 0, 1) := by decide +kernel
theorem dX6_add_31 : decode cX6_add 31 = .ok (.dup, 1) := by decide +kernel
theorem dX6_add_32 : decode cX6_add 32 = .ok (.getfield 21, 3) := by decide +kernel
theorem dX6_add_35 : decode cX6_add 35 = .ok (.iconst 1, 1) := by decide +kernel
theorem dX6_add_36 : decode cX6_add 36 = .ok (.iadd, 1) := by decide +kernel
theorem dX6_add_37 : decode cX6_add 37 = .ok (.putfield 21, 3) := by decide +kernel
theorem dX6_add_40 : decode cX6_add 40 = .ok (.return_, 1) := by decide +kernel
theorem dX6_empty_0 : decode cX6_empty 0 = .ok (.aload_n 0, 1) := by decide +kernel
theorem dX6_empty_1 : decode cX6_empty 1 = .ok (.iconst 0, 1) := by decide +kernel
theorem dX6_empty_2 : decode cX6_empty 2 = .ok (.putfield 21, 3) := by decide +kernel
theorem dX6_empty_5 : decode cX6_empty 5 = .ok (.return_, 1) := by decide +kernel
theorem dX6_append_0 : decode cX6_append 0 = .ok (.iconst 0, 1) := by decide +kernel
theorem dX6_append_1 : decode cX6_append 1 = .ok (.istore_n 2, 1) := by decide +kernel
theorem dX6_append_2 : decode cX6_append 2 = .ok (.iload_n 2, 1) := by decide +kernel
theorem dX6_append_3 : decode cX6_append 3 = .ok (.aload_n 1, 1) := by decide +kernel
theorem dX6_append_4 : decode cX6_append 4 = .ok (.getfield 21, 3) := by decide +kernel
theorem dX6_append_7 : decode cX6_append 7 = .ok (.if_icmp .ge 18, 3) := by decide +kernel
theorem dX6_append_10 : decode cX6_append 10 = .ok (.aload_n 0, 1) := by decide +kernel
theorem dX6_append_11 : decode cX6_append 11 = .ok (.aload_n 1, 1) := by decide +kernel
theorem dX6_append_12 : decode cX6_append 12 = .ok (.iload_n 2, 1) := by decide +kernel
theorem dX6_append_13 : decode cX6_append 13 = .ok (.invokevirtual 25, 3) := by decide +kernel
theorem dX6_append_16 : decode cX6_append 16 = .ok (.invokevirtual 29, 3) := by decide +kernel
theorem dX6_append_19 : decode cX6_append 19 = .ok (.iinc 2 1, 3) := by decide +kernel
theorem dX6_append_22 : decode cX6_append 22 = .ok (.goto (-20), 3) := by decide +kernel
theorem dX6_append_25 : decode cX6_append 25 = .ok (.return_, 1) := by decide +kernel
theorem dX6_copy_0 : decode cX6_copy 0 = .ok (.aload_n 0, 1) := by decide +kernel
theorem dX6_copy_1 : decode cX6_copy 1 = .ok (.aload_n 1, 1) := by decide +kernel
theorem dX6_copy_2 : decode cX6_copy 2 = .ok (.iconst 0, 1) := by decide +kernel
theorem dX6_copy_3 : decode cX6_copy 3 = .ok (.aload_n 1, 1) := by decide +kernel
theorem dX6_copy_4 : decode cX6_copy 4 = .ok (.getfield 21, 3) := by decide +kernel
theorem dX6_copy_7 : decode cX6_copy 7 = .ok (.invokevirtual 33, 3) := by decide +kernel
theorem dX6_copy_10 : decode cX6_copy 10 = .ok (.return_, 1) := by decide +kernel
theorem dX6_take_0 : decode cX6_take 0 = .ok (.aload_n 0, 1) := by decide +kernel
theorem dX6_take_1 : decode cX6_take 1 = .ok (.iconst 0, 1) := by decide +kernel
theorem dX6_take_2 : decode cX6_take 2 = .ok (.putfield 21, 3) := by decide +kernel
theorem dX6_take_5 : decode cX6_take 5 = .ok (.iload_n 3, 1) := by decide +kernel
theorem dX6_take_6 : decode cX6_take 6 = .ok (.aload_n 1, 1) := by decide +kernel
theorem dX6_take_7 : decode cX6_take 7 = .ok (.getfield 21, 3) := by decide +kernel
theorem dX6_take_10 : decode cX6_take 10 = .ok (.invokestatic 37, 3) := by decide +kernel
theorem dX6_take_13 : decode cX6_take 13 = .ok (.istore 4, 2) := by decide +kernel
theorem dX6_take_15 : decode cX6_take 15 = .ok (.iload_n 2, 1) := by decide +kernel
theorem dX6_take_16 : decode cX6_take 16 = .ok (.iconst 0, 1) := by decide +kernel
theorem dX6_take_17 : decode cX6_take 17 = .ok (.invokestatic 9, 3) := by decide +kernel
theorem dX6_take_20 : decode cX6_take 20 = .ok (.istore 5, 2) := by decide +kernel
theorem dX6_take_22 : decode cX6_take 22 = .ok (.iload 5, 2) := by decide +kernel
theorem dX6_take_24 : decode cX6_take 24 = .ok (.iload 4, 2) := by decide +kernel
theorem dX6_take_26 : decode cX6_take 26 = .ok (.if_icmp .ge 19, 3) := by decide +kernel
theorem dX6_take_29 : decode cX6_take 29 = .ok (.aload_n 0, 1) := by decide +kernel
theorem dX6_take_30 : decode cX6_take 30 = .ok (.aload_n 1, 1) := by decide +kernel
theorem dX6_take_31 : decode cX6_take 31 = .ok (.iload 5, 2) := by decide +kernel
theorem dX6_take_33 : decode cX6_take 33 = .ok (.invokevirtual 25, 3) := by decide +kernel
theorem dX6_take_36 : decode cX6_take 36 = .ok (.invokevirtual 29, 3) := by decide +kernel
theorem dX6_take_39 : decode cX6_take 39 = .ok (.iinc 5 1, 3) := by decide +kernel
theorem dX6_take_42 : decode cX6_take 42 = .ok (.goto (-20), 3) := by decide +kernel
theorem dX6_take_45 : decode cX6_take 45 = .ok (.return_, 1) := by decide +kernel
theorem dX6_takeTrimmed_0 : decode cX6_takeTrimmed 0 = .ok (.iload_n 2, 1) := by decide +kernel
theorem dX6_takeTrimmed_1 : decode cX6_takeTrimmed 1 = .ok (.istore 4, 2) := by decide +kernel
theorem dX6_takeTrimmed_3 : decode cX6_takeTrimmed 3 = .ok (.iload_n 3, 1) := by decide +kernel
theorem dX6_takeTrimmed_4 : decode cX6_takeTrimmed 4 = .ok (.istore 5, 2) := by decide +kernel
theorem dX6_takeTrimmed_6 : decode cX6_takeTrimmed 6 = .ok (.iload 4, 2) := by decide +kernel
theorem dX6_takeTrimmed_8 : decode cX6_takeTrimmed 8 = .ok (.iload 5, 2) := by decide +kernel
theorem dX6_takeTrimmed_10 : decode cX6_takeTrimmed 10 = .ok (.if_icmp .ge 20, 3) := by decide +kernel
theorem dX6_takeTrimmed_13 : decode cX6_takeTrimmed 13 = .ok (.aload_n 1, 1) := by decide +kernel
theorem dX6_takeTrimmed_14 : decode cX6_takeTrimmed 14 = .ok (.iload 4, 2) := by decide +kernel
theorem dX6_takeTrimmed_16 : decode cX6_takeTrimmed 16 = .ok (.invokevirtual 25, 3) := by decide +kernel
theorem dX6_takeTrimmed_19 : decode cX6_takeTrimmed 19 = .ok (.bipush 32, 2) := by decide +kernel
theorem dX6_takeTrimmed_21 : decode cX6_takeTrimmed 21 = .ok (.if_icmp .ne 9, 3) := by decide +kernel
theorem dX6_takeTrimmed_24 : decode cX6_takeTrimmed 24 = .ok (.iinc 4 1, 3) := by decide +kernel
theorem dX6_takeTrimmed_27 : decode cX6_takeTrimmed 27 = .ok (.goto (-21), 3) := by decide +kernel
theorem dX6_takeTrimmed_30 : decode cX6_takeTrimmed 30 = .ok (.iload 5, 2) := by decide +kernel
theorem dX6_takeTrimmed_32 : decode cX6_takeTrimmed 32 = .ok (.iload 4, 2) := by decide +kernel
theorem dX6_takeTrimmed_34 : decode cX6_takeTrimmed 34 = .ok (.if_icmp .le 22, 3) := by decide +kernel
theorem dX6_takeTrimmed_37 : decode cX6_takeTrimmed 37 = .ok (.aload_n 1, 1) := by decide +kernel
theorem dX6_takeTrimmed_38 : decode cX6_takeTrimmed 38 = .ok (.iload 5, 2) := by decide +kernel
theorem dX6_takeTrimmed_40 : decode cX6_takeTrimmed 40 = .ok (.iconst 1, 1) := by decide +kernel
theorem dX6_takeTrimmed_41 : decode cX6_takeTrimmed 41 = .ok (.isub, 1) := by decide +kernel
theorem dX6_takeTrimmed_42 : decode cX6_takeTrimmed 42 = .ok (.invokevirtual 25, 3) := by decide +kernel
theorem dX6_takeTrimmed_45 : decode cX6_takeTrimmed 45 = .ok (.bipush 32, 2) := by decide +kernel
theorem dX6_takeTrimmed_47 : decode cX6_takeTrimmed 47 = .ok (.if_icmp .ne 9, 3) := by decide +kernel
theorem dX6_takeTrimmed_50 : decode cX6_takeTrimmed 50 = .ok (.iinc 5 (-1), 3) := by decide +kernel
theorem dX6_takeTrimmed_53 : decode cX6_takeTrimmed 53 = .ok (.goto (-23), 3) := by decide +kernel
theorem dX6_takeTrimmed_56 : decode cX6_takeTrimmed 56 = .ok (.aload_n 0, 1) := by decide +kernel
theorem dX6_takeTrimmed_57 : decode cX6_takeTrimmed 57 = .ok (.aload_n 1, 1) := by decide +kernel
theorem dX6_takeTrimmed_58 : decode cX6_takeTrimmed 58 = .ok (.iload 4, 2) := by decide +kernel
theorem dX6_takeTrimmed_60 : decode cX6_takeTrimmed 60 = .ok (.iload 5, 2) := by decide +kernel
theorem dX6_takeTrimmed_62 : decode cX6_takeTrimmed 62 = .ok (.invokevirtual 33, 3) := by decide +kernel
theorem dX6_takeTrimmed_65 : decode cX6_takeTrimmed 65 = .ok (.return_, 1) := by decide +kernel
theorem dX6_toSmallLetters_0 : decode cX6_toSmallLetters 0 = .ok (.iconst 0, 1) := by decide +kernel
theorem dX6_toSmallLetters_1 : decode cX6_toSmallLetters 1 = .ok (.istore_n 1, 1) := by decide +kernel
theorem dX6_toSmallLetters_2 : decode cX6_toSmallLetters 2 = .ok (.iload_n 1, 1) := by decide +kernel
theorem dX6_toSmallLetters_3 : decode cX6_toSmallLetters 3 = .ok (.aload_n 0, 1) := by decide +kernel
theorem dX6_toSmallLetters_4 : decode cX6_toSmallLetters 4 = .ok (.getfield 21, 3) := by decide +kernel
theorem dX6_toSmallLetters_7 : decode cX6_toSmallLetters 7 = .ok (.if_icmp .ge 59, 3) := by decide +kernel
theorem dX6_toSmallLetters_10 : decode cX6_toSmallLetters 10 = .ok (.iload_n 1, 1) := by decide +kernel
theorem dX6_toSmallLetters_11 : decode cX6_toSmallLetters 11 = .ok (.aload_n 0, 1) := by decide +kernel
theorem dX6_toSmallLetters_12 : decode cX6_toSmallLetters 12 = .ok (.getfield 15, 3) := by decide +kernel
theorem dX6_toSmallLetters_15 : decode cX6_toSmallLetters 15 = .ok (.arraylength, 1) := by decide +kernel
theorem dX6_toSmallLetters_16 : decode cX6_toSmallLetters 16 = .ok (.if_icmp .ge 50, 3) := by decide +kernel
theorem dX6_toSmallLetters_19 : decode cX6_toSmallLetters 19 = .ok (.aload_n 0, 1) := by decide +kernel
theorem dX6_toSmallLetters_20 : decode cX6_toSmallLetters 20 = .ok (.getfield 15, 3) := by decide +kernel
theorem dX6_toSmallLetters_23 : decode cX6_toSmallLetters 23 = .ok (.iload_n 1, 1) := by decide +kernel
theorem dX6_toSmallLetters_24 : decode cX6_toSmallLetters 24 = .ok (.caload, 1) := by decide +kernel
theorem dX6_toSmallLetters_25 : decode cX6_toSmallLetters 25 = .ok (.bipush 65, 2) := by decide +kernel
theorem dX6_toSmallLetters_27 : decode cX6_toSmallLetters 27 = .ok (.if_icmp .lt 33, 3) := by decide +kernel
theorem dX6_toSmallLetters_30 : decode cX6_toSmallLetters 30 = .ok (.aload_n 0, 1) := by decide +kernel
theorem dX6_toSmallLetters_31 : decode cX6_toSmallLetters 31 = .ok (.getfield 15, 3) := by decide +kernel
theorem dX6_toSmallLetters_34 : decode cX6_toSmallLetters 34 = .ok (.iload_n 1, 1) := by decide +kernel
theorem dX6_toSmallLetters_35 : decode cX6_toSmallLetters 35 = .ok (.caload, 1) := by decide +kernel
theorem dX6_toSmallLetters_36 : decode cX6_toSmallLetters 36 = .ok (.bipush 90, 2) := by decide +kernel
theorem dX6_toSmallLetters_38 : decode cX6_toSmallLetters 38 = .ok (.if_icmp .gt 22, 3) := by decide +kernel
theorem dX6_toSmallLetters_41 : decode cX6_toSmallLetters 41 = .ok (.aload_n 0, 1) := by decide +kernel
theorem dX6_toSmallLetters_42 : decode cX6_toSmallLetters 42 = .ok (.getfield 15, 3) := by decide +kernel
theorem dX6_toSmallLetters_45 : decode cX6_toSmallLetters 45 = .ok (.iload_n 1, 1) := by decide +kernel
theorem dX6_toSmallLetters_46 : decode cX6_toSmallLetters 46 = .ok (.aload_n 0, 1) := by decide +kernel
theorem dX6_toSmallLetters_47 : decode cX6_toSmallLetters 47 = .ok (.getfield 15, 3) := by decide +kernel
theorem dX6_toSmallLetters_50 : decode cX6_toSmallLetters 50 = .ok (.iload_n 1, 1) := by decide +kernel
theorem dX6_toSmallLetters_51 : decode cX6_toSmallLetters 51 = .ok (.caload, 1) := by decide +kernel
theorem dX6_toSmallLetters_52 : decode cX6_toSmallLetters 52 = .ok (.bipush 65, 2) := by decide +kernel
theorem dX6_toSmallLetters_54 : decode cX6_toSmallLetters 54 = .ok (.isub, 1) := by decide +kernel
theorem dX6_toSmallLetters_55 : decode cX6_toSmallLetters 55 = .ok (.bipush 97, 2) := by decide +kernel
theorem dX6_toSmallLetters_57 : decode cX6_toSmallLetters 57 = .ok (.iadd, 1) := by decide +kernel
theorem dX6_toSmallLetters_58 : decode cX6_toSmallLetters 58 = .ok (.i2c, 1) := by decide +kernel
theorem dX6_toSmallLetters_59 : decode cX6_toSmallLetters 59 = .ok (.castore, 1) := by decide +kernel
theorem dX6_toSmallLetters_60 : decode cX6_toSmallLetters 60 = .ok (.iinc 1 1, 3) := by decide +kernel
theorem dX6_toSmallLetters_63 : decode cX6_toSmallLetters 63 = .ok (.goto (-61), 3) := by decide +kernel
theorem dX6_toSmallLetters_66 : decode cX6_toSmallLetters 66 = .ok (.return_, 1) := by decide +kernel
theorem dX6_find_0 : decode cX6_find 0 = .ok (.iload_n 2, 1) := by decide +kernel
theorem dX6_find_1 : decode cX6_find 1 = .ok (.istore 4, 2) := by decide +kernel
theorem dX6_find_3 : decode cX6_find 3 = .ok (.iload 4, 2) := by decide +kernel
theorem dX6_find_5 : decode cX6_find 5 = .ok (.iload_n 3, 1) := by decide +kernel
theorem dX6_find_6 : decode cX6_find 6 = .ok (.if_icmp .ge 22, 3) := by decide +kernel
theorem dX6_find_9 : decode cX6_find 9 = .ok (.aload_n 0, 1) := by decide +kernel
theorem dX6_find_10 : decode cX6_find 10 = .ok (.iload 4, 2) := by decide +kernel
theorem dX6_find_12 : decode cX6_find 12 = .ok (.invokevirtual 25, 3) := by decide +kernel
theorem dX6_find_15 : decode cX6_find 15 = .ok (.iload_n 1, 1) := by decide +kernel
theorem dX6_find_16 : decode cX6_find 16 = .ok (.if_icmp .ne 6, 3) := by decide +kernel
theorem dX6_find_19 : decode cX6_find 19 = .ok (.iload 4, 2) := by decide +kernel
theorem dX6_find_21 : decode cX6_find 21 = .ok (.ireturn, 1) := by decide +kernel
theorem dX6_find_22 : decode cX6_find 22 = .ok (.iinc 4 1, 3) := by decide +kernel
theorem dX6_find_25 : decode cX6_find 25 = .ok (.goto (-22), 3) := by decide +kernel
theorem dX6_find_28 : decode cX6_find 28 = .ok (.iload_n 3, 1) := by decide +kernel
theorem dX6_find_29 : decode cX6_find 29 = .ok (.ireturn, 1) := by decide +kernel
theorem dX6_agreement_0 : decode cX6_agreement 0 = .ok (.iconst 0, 1) := by decide +kernel
theorem dX6_agreement_1 : decode cX6_agreement 1 = .ok (.istore_n 2, 1) := by decide +kernel
theorem dX6_agreement_2 : decode cX6_agreement 2 = .ok (.iload_n 2, 1) := by decide +kernel
theorem dX6_agreement_3 : decode cX6_agreement 3 = .ok (.aload_n 1, 1) := by decide +kernel
theorem dX6_agreement_4 : decode cX6_agreement 4 = .ok (.invokevirtual 40, 3) := by decide +kernel
theorem dX6_agreement_7 : decode cX6_agreement 7 = .ok (.if_icmp .ge 22, 3) := by decide +kernel
theorem dX6_agreement_10 : decode cX6_agreement 10 = .ok (.aload_n 0, 1) := by decide +kernel
theorem dX6_agreement_11 : decode cX6_agreement 11 = .ok (.iload_n 2, 1) := by decide +kernel
theorem dX6_agreement_12 : decode cX6_agreement 12 = .ok (.invokevirtual 25, 3) := by decide +kernel
theorem dX6_agreement_15 : decode cX6_agreement 15 = .ok (.aload_n 1, 1) := by decide +kernel
theorem dX6_agreement_16 : decode cX6_agreement 16 = .ok (.iload_n 2, 1) := by decide +kernel
theorem dX6_agreement_17 : decode cX6_agreement 17 = .ok (.invokevirtual 45, 3) := by decide +kernel
theorem dX6_agreement_20 : decode cX6_agreement 20 = .ok (.if_icmp .ne 9, 3) := by decide +kernel
theorem dX6_agreement_23 : decode cX6_agreement 23 = .ok (.iinc 2 1, 3) := by decide +kernel
theorem dX6_agreement_26 : decode cX6_agreement 26 = .ok (.goto (-24), 3) := by decide +kernel
theorem dX6_agreement_29 : decode cX6_agreement 29 = .ok (.iload_n 2, 1) := by decide +kernel
theorem dX6_agreement_30 : decode cX6_agreement 30 = .ok (.ireturn, 1) := by decide +kernel
theorem dX6_begins_0 : decode cX6_begins 0 = .ok (.aload_n 0, 1) := by decide +kernel
theorem dX6_begins_1 : decode cX6_begins 1 = .ok (.aload_n 1, 1) := by decide +kernel
theorem dX6_begins_2 : decode cX6_begins 2 = .ok (.invokevirtual 49, 3) := by decide +kernel
theorem dX6_begins_5 : decode cX6_begins 5 = .ok (.aload_n 1, 1) := by decide +kernel
theorem dX6_begins_6 : decode cX6_begins 6 = .ok (.invokevirtual 40, 3) := by decide +kernel
theorem dX6_begins_9 : decode cX6_begins 9 = .ok (.if_icmp .ne 7, 3) := by decide +kernel
theorem dX6_begins_12 : decode cX6_begins 12 = .ok (.iconst 1, 1) := by decide +kernel
theorem dX6_begins_13 : decode cX6_begins 13 = .ok (.goto 4, 3) := by decide +kernel
theorem dX6_begins_16 : decode cX6_begins 16 = .ok (.iconst 0, 1) := by decide +kernel
theorem dX6_begins_17 : decode cX6_begins 17 = .ok (.ireturn, 1) := by decide +kernel
theorem dX6_is_0 : decode cX6_is 0 = .ok (.aload_n 0, 1) := by decide +kernel
theorem dX6_is_1 : decode cX6_is 1 = .ok (.getfield 21, 3) := by decide +kernel
theorem dX6_is_4 : decode cX6_is 4 = .ok (.aload_n 1, 1) := by decide +kernel
theorem dX6_is_5 : decode cX6_is 5 = .ok (.invokevirtual 40, 3) := by decide +kernel
theorem dX6_is_8 : decode cX6_is 8 = .ok (.if_icmp .ne 19, 3) := by decide +kernel
theorem dX6_is_11 : decode cX6_is 11 = .ok (.aload_n 0, 1) := by decide +kernel
theorem dX6_is_12 : decode cX6_is 12 = .ok (.aload_n 1, 1) := by decide +kernel
theorem dX6_is_13 : decode cX6_is 13 = .ok (.invokevirtual 49, 3) := by decide +kernel
theorem dX6_is_16 : decode cX6_is 16 = .ok (.aload_n 0, 1) := by decide +kernel
theorem dX6_is_17 : decode cX6_is 17 = .ok (.getfield 21, 3) := by decide +kernel
theorem dX6_is_20 : decode cX6_is 20 = .ok (.if_icmp .ne 7, 3) := by decide +kernel
theorem dX6_is_23 : decode cX6_is 23 = .ok (.iconst 1, 1) := by decide +kernel
theorem dX6_is_24 : decode cX6_is 24 = .ok (.goto 4, 3) := by decide +kernel
theorem dX6_is_27 : decode cX6_is 27 = .ok (.iconst 0, 1) := by decide +kernel
theorem dX6_is_28 : decode cX6_is 28 = .ok (.ireturn, 1) := by decide +kernel
theorem dX6_same_0 : decode cX6_same 0 = .ok (.aload_n 0, 1) := by decide +kernel
theorem dX6_same_1 : decode cX6_same 1 = .ok (.iconst 0, 1) := by decide +kernel
theorem dX6_same_2 : decode cX6_same 2 = .ok (.aload_n 0, 1) := by decide +kernel
theorem dX6_same_3 : decode cX6_same 3 = .ok (.getfield 21, 3) := by decide +kernel
theorem dX6_same_6 : decode cX6_same 6 = .ok (.aload_n 1, 1) := by decide +kernel
theorem dX6_same_7 : decode cX6_same 7 = .ok (.iconst 0, 1) := by decide +kernel
theorem dX6_same_8 : decode cX6_same 8 = .ok (.aload_n 1, 1) := by decide +kernel
theorem dX6_same_9 : decode cX6_same 9 = .ok (.getfield 21, 3) := by decide +kernel
theorem dX6_same_12 : decode cX6_same 12 = .ok (.invokevirtual 53, 3) := by decide +kernel
theorem dX6_same_15 : decode cX6_same 15 = .ok (.ifCond .ne 7, 3) := by decide +kernel
theorem dX6_same_18 : decode cX6_same 18 = .ok (.iconst 1, 1) := by decide +kernel
theorem dX6_same_19 : decode cX6_same 19 = .ok (.goto 4, 3) := by decide +kernel
theorem dX6_same_22 : decode cX6_same 22 = .ok (.iconst 0, 1) := by decide +kernel
theorem dX6_same_23 : decode cX6_same 23 = .ok (.ireturn, 1) := by decide +kernel
theorem dX6_sameTail_0 : decode cX6_sameTail 0 = .ok (.aload_n 0, 1) := by decide +kernel
theorem dX6_sameTail_1 : decode cX6_sameTail 1 = .ok (.iload_n 1, 1) := by decide +kernel
theorem dX6_sameTail_2 : decode cX6_sameTail 2 = .ok (.aload_n 0, 1) := by decide +kernel
theorem dX6_sameTail_3 : decode cX6_sameTail 3 = .ok (.getfield 21, 3) := by decide +kernel
theorem dX6_sameTail_6 : decode cX6_sameTail 6 = .ok (.aload_n 2, 1) := by decide +kernel
theorem dX6_sameTail_7 : decode cX6_sameTail 7 = .ok (.iload_n 3, 1) := by decide +kernel
theorem dX6_sameTail_8 : decode cX6_sameTail 8 = .ok (.aload_n 2, 1) := by decide +kernel
theorem dX6_sameTail_9 : decode cX6_sameTail 9 = .ok (.getfield 21, 3) := by decide +kernel
theorem dX6_sameTail_12 : decode cX6_sameTail 12 = .ok (.invokevirtual 53, 3) := by decide +kernel
theorem dX6_sameTail_15 : decode cX6_sameTail 15 = .ok (.ifCond .ne 7, 3) := by decide +kernel
theorem dX6_sameTail_18 : decode cX6_sameTail 18 = .ok (.iconst 1, 1) := by decide +kernel
theorem dX6_sameTail_19 : decode cX6_sameTail 19 = .ok (.goto 4, 3) := by decide +kernel
theorem dX6_sameTail_22 : decode cX6_sameTail 22 = .ok (.iconst 0, 1) := by decide +kernel
theorem dX6_sameTail_23 : decode cX6_sameTail 23 = .ok (.ireturn, 1) := by decide +kernel
theorem dX6_compare_0 : decode cX6_compare 0 = .ok (.aload_n 0, 1) := by decide +kernel
theorem dX6_compare_1 : decode cX6_compare 1 = .ok (.iconst 0, 1) := by decide +kernel
theorem dX6_compare_2 : decode cX6_compare 2 = .ok (.aload_n 0, 1) := by decide +kernel
theorem dX6_compare_3 : decode cX6_compare 3 = .ok (.getfield 21, 3) := by decide +kernel
theorem dX6_compare_6 : decode cX6_compare 6 = .ok (.aload_n 1, 1) := by decide +kernel
theorem dX6_compare_7 : decode cX6_compare 7 = .ok (.iconst 0, 1) := by decide +kernel
theorem dX6_compare_8 : decode cX6_compare 8 = .ok (.aload_n 1, 1) := by decide +kernel
theorem dX6_compare_9 : decode cX6_compare 9 = .ok (.getfield 21, 3) := by decide +kernel
theorem dX6_compare_12 : decode cX6_compare 12 = .ok (.invokevirtual 53, 3) := by decide +kernel
theorem dX6_compare_15 : decode cX6_compare 15 = .ok (.ireturn, 1) := by decide +kernel
theorem dX6_compareParts_0 : decode cX6_compareParts 0 = .ok (.iload_n 2, 1) := by decide +kernel
theorem dX6_compareParts_1 : decode cX6_compareParts 1 = .ok (.iload_n 1, 1) := by decide +kernel
theorem dX6_compareParts_2 : decode cX6_compareParts 2 = .ok (.isub, 1) := by decide +kernel
theorem dX6_compareParts_3 : decode cX6_compareParts 3 = .ok (.iload 5, 2) := by decide +kernel
theorem dX6_compareParts_5 : decode cX6_compareParts 5 = .ok (.iload 4, 2) := by decide +kernel
theorem dX6_compareParts_7 : decode cX6_compareParts 7 = .ok (.isub, 1) := by decide +kernel
theorem dX6_compareParts_8 : decode cX6_compareParts 8 = .ok (.invokestatic 37, 3) := by decide +kernel
theorem dX6_compareParts_11 : decode cX6_compareParts 11 = .ok (.istore 6, 2) := by decide +kernel
theorem dX6_compareParts_13 : decode cX6_compareParts 13 = .ok (.iconst 0, 1) := by decide +kernel
theorem dX6_compareParts_14 : decode cX6_compareParts 14 = .ok (.istore 7, 2) := by decide +kernel
theorem dX6_compareParts_16 : decode cX6_compareParts 16 = .ok (.iload 7, 2) := by decide +kernel
theorem dX6_compareParts_18 : decode cX6_compareParts 18 = .ok (.iload 6, 2) := by decide +kernel
theorem dX6_compareParts_20 : decode cX6_compareParts 20 = .ok (.if_icmp .ge 39, 3) := by decide +kernel
theorem dX6_compareParts_23 : decode cX6_compareParts 23 = .ok (.aload_n 0, 1) := by decide +kernel
theorem dX6_compareParts_24 : decode cX6_compareParts 24 = .ok (.iload_n 1, 1) := by decide +kernel
theorem dX6_compareParts_25 : decode cX6_compareParts 25 = .ok (.iload 7, 2) := by decide +kernel
theorem dX6_compareParts_27 : decode cX6_compareParts 27 = .ok (.iadd, 1) := by decide +kernel
theorem dX6_compareParts_28 : decode cX6_compareParts 28 = .ok (.invokevirtual 25, 3) := by decide +kernel
theorem dX6_compareParts_31 : decode cX6_compareParts 31 = .ok (.aload_n 3, 1) := by decide +kernel
theorem dX6_compareParts_32 : decode cX6_compareParts 32 = .ok (.iload 4, 2) := by decide +kernel
theorem dX6_compareParts_34 : decode cX6_compareParts 34 = .ok (.iload 7, 2) := by decide +kernel
theorem dX6_compareParts_36 : decode cX6_compareParts 36 = .ok (.iadd, 1) := by decide +kernel
theorem dX6_compareParts_37 : decode cX6_compareParts 37 = .ok (.invokevirtual 25, 3) := by decide +kernel
theorem dX6_compareParts_40 : decode cX6_compareParts 40 = .ok (.invokestatic 57, 3) := by decide +kernel
theorem dX6_compareParts_43 : decode cX6_compareParts 43 = .ok (.istore 8, 2) := by decide +kernel
theorem dX6_compareParts_45 : decode cX6_compareParts 45 = .ok (.iload 8, 2) := by decide +kernel
theorem dX6_compareParts_47 : decode cX6_compareParts 47 = .ok (.ifCond .eq 6, 3) := by decide +kernel
theorem dX6_compareParts_50 : decode cX6_compareParts 50 = .ok (.iload 8, 2) := by decide +kernel
theorem dX6_compareParts_52 : decode cX6_compareParts 52 = .ok (.ireturn, 1) := by decide +kernel
theorem dX6_compareParts_53 : decode cX6_compareParts 53 = .ok (.iinc 7 1, 3) := by decide +kernel
theorem dX6_compareParts_56 : decode cX6_compareParts 56 = .ok (.goto (-40), 3) := by decide +kernel
theorem dX6_compareParts_59 : decode cX6_compareParts 59 = .ok (.iload_n 2, 1) := by decide +kernel
theorem dX6_compareParts_60 : decode cX6_compareParts 60 = .ok (.iload_n 1, 1) := by decide +kernel
theorem dX6_compareParts_61 : decode cX6_compareParts 61 = .ok (.isub, 1) := by decide +kernel
theorem dX6_compareParts_62 : decode cX6_compareParts 62 = .ok (.iload 5, 2) := by decide +kernel
theorem dX6_compareParts_64 : decode cX6_compareParts 64 = .ok (.iload 4, 2) := by decide +kernel
theorem dX6_compareParts_66 : decode cX6_compareParts 66 = .ok (.isub, 1) := by decide +kernel
theorem dX6_compareParts_67 : decode cX6_compareParts 67 = .ok (.invokestatic 57, 3) := by decide +kernel
theorem dX6_compareParts_70 : decode cX6_compareParts 70 = .ok (.ireturn, 1) := by decide +kernel
theorem dX6_number_0 : decode cX6_number 0 = .ok (.iconst 0, 1) := by decide +kernel
theorem dX6_number_1 : decode cX6_number 1 = .ok (.istore_n 3, 1) := by decide +kernel
theorem dX6_number_2 : decode cX6_number 2 = .ok (.iload_n 1, 1) := by decide +kernel
theorem dX6_number_3 : decode cX6_number 3 = .ok (.istore 4, 2) := by decide +kernel
theorem dX6_number_5 : decode cX6_number 5 = .ok (.iload 4, 2) := by decide +kernel
theorem dX6_number_7 : decode cX6_number 7 = .ok (.iload_n 2, 1) := by decide +kernel
theorem dX6_number_8 : decode cX6_number 8 = .ok (.if_icmp .ge 44, 3) := by decide +kernel
theorem dX6_number_11 : decode cX6_number 11 = .ok (.aload_n 0, 1) := by decide +kernel
theorem dX6_number_12 : decode cX6_number 12 = .ok (.iload 4, 2) := by decide +kernel
theorem dX6_number_14 : decode cX6_number 14 = .ok (.invokevirtual 25, 3) := by decide +kernel
theorem dX6_number_17 : decode cX6_number 17 = .ok (.istore 5, 2) := by decide +kernel
theorem dX6_number_19 : decode cX6_number 19 = .ok (.iload 5, 2) := by decide +kernel
theorem dX6_number_21 : decode cX6_number 21 = .ok (.bipush 48, 2) := by decide +kernel
theorem dX6_number_23 : decode cX6_number 23 = .ok (.if_icmp .lt 10, 3) := by decide +kernel
theorem dX6_number_26 : decode cX6_number 26 = .ok (.iload 5, 2) := by decide +kernel
theorem dX6_number_28 : decode cX6_number 28 = .ok (.bipush 57, 2) := by decide +kernel
theorem dX6_number_30 : decode cX6_number 30 = .ok (.if_icmp .le 5, 3) := by decide +kernel
theorem dX6_number_33 : decode cX6_number 33 = .ok (.iconst (-1), 1) := by decide +kernel
theorem dX6_number_34 : decode cX6_number 34 = .ok (.ireturn, 1) := by decide +kernel
theorem dX6_number_35 : decode cX6_number 35 = .ok (.bipush 10, 2) := by decide +kernel
theorem dX6_number_37 : decode cX6_number 37 = .ok (.iload_n 3, 1) := by decide +kernel
theorem dX6_number_38 : decode cX6_number 38 = .ok (.imul, 1) := by decide +kernel
theorem dX6_number_39 : decode cX6_number 39 = .ok (.iload 5, 2) := by decide +kernel
theorem dX6_number_41 : decode cX6_number 41 = .ok (.bipush 48, 2) := by decide +kernel
theorem dX6_number_43 : decode cX6_number 43 = .ok (.isub, 1) := by decide +kernel
theorem dX6_number_44 : decode cX6_number 44 = .ok (.iadd, 1) := by decide +kernel
theorem dX6_number_45 : decode cX6_number 45 = .ok (.istore_n 3, 1) := by decide +kernel
theorem dX6_number_46 : decode cX6_number 46 = .ok (.iinc 4 1, 3) := by decide +kernel
theorem dX6_number_49 : decode cX6_number 49 = .ok (.goto (-44), 3) := by decide +kernel
theorem dX6_number_52 : decode cX6_number 52 = .ok (.iload_n 3, 1) := by decide +kernel
theorem dX6_number_53 : decode cX6_number 53 = .ok (.ireturn, 1) := by decide +kernel
theorem dX6_pathMatches_0 : decode cX6_pathMatches 0 = .ok (.aload_n 1, 1) := by decide +kernel
theorem dX6_pathMatches_1 : decode cX6_pathMatches 1 = .ok (.getfield 21, 3) := by decide +kernel
theorem dX6_pathMatches_4 : decode cX6_pathMatches 4 = .ok (.aload_n 0, 1) := by decide +kernel
theorem dX6_pathMatches_5 : decode cX6_pathMatches 5 = .ok (.getfield 21, 3) := by decide +kernel
theorem dX6_pathMatches_8 : decode cX6_pathMatches 8 = .ok (.if_icmp .gt 21, 3) := by decide +kernel
theorem dX6_pathMatches_11 : decode cX6_pathMatches 11 = .ok (.aload_n 0, 1) := by decide +kernel
theorem dX6_pathMatches_12 : decode cX6_pathMatches 12 = .ok (.iconst 0, 1) := by decide +kernel
theorem dX6_pathMatches_13 : decode cX6_pathMatches 13 = .ok (.aload_n 1, 1) := by decide +kernel
theorem dX6_pathMatches_14 : decode cX6_pathMatches 14 = .ok (.getfield 21, 3) := by decide +kernel
theorem dX6_pathMatches_17 : decode cX6_pathMatches 17 = .ok (.aload_n 1, 1) := by decide +kernel
theorem dX6_pathMatches_18 : decode cX6_pathMatches 18 = .ok (.iconst 0, 1) := by decide +kernel
theorem dX6_pathMatches_19 : decode cX6_pathMatches 19 = .ok (.aload_n 1, 1) := by decide +kernel
theorem dX6_pathMatches_20 : decode cX6_pathMatches 20 = .ok (.getfield 21, 3) := by decide +kernel
theorem dX6_pathMatches_23 : decode cX6_pathMatches 23 = .ok (.invokevirtual 53, 3) := by decide +kernel
theorem dX6_pathMatches_26 : decode cX6_pathMatches 26 = .ok (.ifCond .eq 5, 3) := by decide +kernel
theorem dX6_pathMatches_29 : decode cX6_pathMatches 29 = .ok (.iconst 0, 1) := by decide +kernel
theorem dX6_pathMatches_30 : decode cX6_pathMatches 30 = .ok (.ireturn, 1) := by decide +kernel
theorem dX6_pathMatches_31 : decode cX6_pathMatches 31 = .ok (.aload_n 1, 1) := by decide +kernel
theorem dX6_pathMatches_32 : decode cX6_pathMatches 32 = .ok (.getfield 21, 3) := by decide +kernel
theorem dX6_pathMatches_35 : decode cX6_pathMatches 35 = .ok (.aload_n 0, 1) := by decide +kernel
theorem dX6_pathMatches_36 : decode cX6_pathMatches 36 = .ok (.getfield 21, 3) := by decide +kernel
theorem dX6_pathMatches_39 : decode cX6_pathMatches 39 = .ok (.if_icmp .eq 31, 3) := by decide +kernel
theorem dX6_pathMatches_42 : decode cX6_pathMatches 42 = .ok (.aload_n 1, 1) := by decide +kernel
theorem dX6_pathMatches_43 : decode cX6_pathMatches 43 = .ok (.aload_n 1, 1) := by decide +kernel
theorem dX6_pathMatches_44 : decode cX6_pathMatches 44 = .ok (.getfield 21, 3) := by decide +kernel
theorem dX6_pathMatches_47 : decode cX6_pathMatches 47 = .ok (.iconst 1, 1) := by decide +kernel
theorem dX6_pathMatches_48 : decode cX6_pathMatches 48 = .ok (.isub, 1) := by decide +kernel
theorem dX6_pathMatches_49 : decode cX6_pathMatches 49 = .ok (.invokevirtual 25, 3) := by decide +kernel
theorem dX6_pathMatches_52 : decode cX6_pathMatches 52 = .ok (.bipush 47, 2) := by decide +kernel
theorem dX6_pathMatches_54 : decode cX6_pathMatches 54 = .ok (.if_icmp .eq 16, 3) := by decide +kernel
theorem dX6_pathMatches_57 : decode cX6_pathMatches 57 = .ok (.aload_n 0, 1) := by decide +kernel
theorem dX6_pathMatches_58 : decode cX6_pathMatches 58 = .ok (.aload_n 1, 1) := by decide +kernel
theorem dX6_pathMatches_59 : decode cX6_pathMatches 59 = .ok (.getfield 21, 3) := by decide +kernel
theorem dX6_pathMatches_62 : decode cX6_pathMatches 62 = .ok (.invokevirtual 25, 3) := by decide +kernel
theorem dX6_pathMatches_65 : decode cX6_pathMatches 65 = .ok (.bipush 47, 2) := by decide +kernel
theorem dX6_pathMatches_67 : decode cX6_pathMatches 67 = .ok (.if_icmp .ne 7, 3) := by decide +kernel
theorem dX6_pathMatches_70 : decode cX6_pathMatches 70 = .ok (.iconst 1, 1) := by decide +kernel
theorem dX6_pathMatches_71 : decode cX6_pathMatches 71 = .ok (.goto 4, 3) := by decide +kernel
theorem dX6_pathMatches_74 : decode cX6_pathMatches 74 = .ok (.iconst 0, 1) := by decide +kernel
theorem dX6_pathMatches_75 : decode cX6_pathMatches 75 = .ok (.ireturn, 1) := by decide +kernel
theorem dX6_domainMatches_0 : decode cX6_domainMatches 0 = .ok (.aload_n 0, 1) := by decide +kernel
theorem dX6_domainMatches_1 : decode cX6_domainMatches 1 = .ok (.getfield 21, 3) := by decide +kernel
theorem dX6_domainMatches_4 : decode cX6_domainMatches 4 = .ok (.aload_n 1, 1) := by decide +kernel
theorem dX6_domainMatches_5 : decode cX6_domainMatches 5 = .ok (.getfield 21, 3) := by decide +kernel
theorem dX6_domainMatches_8 : decode cX6_domainMatches 8 = .ok (.isub, 1) := by decide +kernel
theorem dX6_domainMatches_9 : decode cX6_domainMatches 9 = .ok (.istore_n 2, 1) := by decide +kernel
theorem dX6_domainMatches_10 : decode cX6_domainMatches 10 = .ok (.iload_n 2, 1) := by decide +kernel
theorem dX6_domainMatches_11 : decode cX6_domainMatches 11 = .ok (.ifCond .lt 19, 3) := by decide +kernel
theorem dX6_domainMatches_14 : decode cX6_domainMatches 14 = .ok (.iload_n 2, 1) := by decide +kernel
theorem dX6_domainMatches_15 : decode cX6_domainMatches 15 = .ok (.ifCond .le 17, 3) := by decide +kernel
theorem dX6_domainMatches_18 : decode cX6_domainMatches 18 = .ok (.aload_n 0, 1) := by decide +kernel
theorem dX6_domainMatches_19 : decode cX6_domainMatches 19 = .ok (.iload_n 2, 1) := by decide +kernel
theorem dX6_domainMatches_20 : decode cX6_domainMatches 20 = .ok (.iconst 1, 1) := by decide +kernel
theorem dX6_domainMatches_21 : decode cX6_domainMatches 21 = .ok (.isub, 1) := by decide +kernel
theorem dX6_domainMatches_22 : decode cX6_domainMatches 22 = .ok (.invokevirtual 25, 3) := by decide +kernel
theorem dX6_domainMatches_25 : decode cX6_domainMatches 25 = .ok (.bipush 46, 2) := by decide +kernel
theorem dX6_domainMatches_27 : decode cX6_domainMatches 27 = .ok (.if_icmp .eq 5, 3) := by decide +kernel
theorem dX6_domainMatches_30 : decode cX6_domainMatches 30 = .ok (.iconst 0, 1) := by decide +kernel
theorem dX6_domainMatches_31 : decode cX6_domainMatches 31 = .ok (.ireturn, 1) := by decide +kernel
theorem dX6_domainMatches_32 : decode cX6_domainMatches 32 = .ok (.iload_n 2, 1) := by decide +kernel
theorem dX6_domainMatches_33 : decode cX6_domainMatches 33 = .ok (.istore_n 3, 1) := by decide +kernel
theorem dX6_domainMatches_34 : decode cX6_domainMatches 34 = .ok (.iload_n 3, 1) := by decide +kernel
theorem dX6_domainMatches_35 : decode cX6_domainMatches 35 = .ok (.aload_n 0, 1) := by decide +kernel
theorem dX6_domainMatches_36 : decode cX6_domainMatches 36 = .ok (.getfield 21, 3) := by decide +kernel
theorem dX6_domainMatches_39 : decode cX6_domainMatches 39 = .ok (.if_icmp .ge 26, 3) := by decide +kernel
theorem dX6_domainMatches_42 : decode cX6_domainMatches 42 = .ok (.aload_n 0, 1) := by decide +kernel
theorem dX6_domainMatches_43 : decode cX6_domainMatches 43 = .ok (.iload_n 3, 1) := by decide +kernel
theorem dX6_domainMatches_44 : decode cX6_domainMatches 44 = .ok (.invokevirtual 25, 3) := by decide +kernel
theorem dX6_domainMatches_47 : decode cX6_domainMatches 47 = .ok (.aload_n 1, 1) := by decide +kernel
theorem dX6_domainMatches_48 : decode cX6_domainMatches 48 = .ok (.iload_n 3, 1) := by decide +kernel
theorem dX6_domainMatches_49 : decode cX6_domainMatches 49 = .ok (.iload_n 2, 1) := by decide +kernel
theorem dX6_domainMatches_50 : decode cX6_domainMatches 50 = .ok (.isub, 1) := by decide +kernel
theorem dX6_domainMatches_51 : decode cX6_domainMatches 51 = .ok (.invokevirtual 25, 3) := by decide +kernel
theorem dX6_domainMatches_54 : decode cX6_domainMatches 54 = .ok (.if_icmp .eq 5, 3) := by decide +kernel
theorem dX6_domainMatches_57 : decode cX6_domainMatches 57 = .ok (.iconst 0, 1) := by decide +kernel
theorem dX6_domainMatches_58 : decode cX6_domainMatches 58 = .ok (.ireturn, 1) := by decide +kernel
theorem dX6_domainMatches_59 : decode cX6_domainMatches 59 = .ok (.iinc 3 1, 3) := by decide +kernel
theorem dX6_domainMatches_62 : decode cX6_domainMatches 62 = .ok (.goto (-28), 3) := by decide +kernel
theorem dX6_domainMatches_65 : decode cX6_domainMatches 65 = .ok (.iconst 1, 1) := by decide +kernel
theorem dX6_domainMatches_66 : decode cX6_domainMatches 66 = .ok (.ireturn, 1) := by decide +kernel
theorem dX6_mix_0 : decode cX6_mix 0 = .ok (.lload_n 1, 1) := by decide +kernel
theorem dX6_mix_1 : decode cX6_mix 1 = .ok (.lstore_n 3, 1) := by decide +kernel
theorem dX6_mix_2 : decode cX6_mix 2 = .ok (.iconst 0, 1) := by decide +kernel
theorem dX6_mix_3 : decode cX6_mix 3 = .ok (.istore 5, 2) := by decide +kernel
theorem dX6_mix_5 : decode cX6_mix 5 = .ok (.iload 5, 2) := by decide +kernel
theorem dX6_mix_7 : decode cX6_mix 7 = .ok (.aload_n 0, 1) := by decide +kernel
theorem dX6_mix_8 : decode cX6_mix 8 = .ok (.getfield 21, 3) := by decide +kernel
theorem dX6_mix_11 : decode cX6_mix 11 = .ok (.if_icmp .ge 23, 3) := by decide +kernel
theorem dX6_mix_14 : decode cX6_mix 14 = .ok (.ldc2_w 62, 3) := by decide +kernel
theorem dX6_mix_17 : decode cX6_mix 17 = .ok (.lload_n 3, 1) := by decide +kernel
theorem dX6_mix_18 : decode cX6_mix 18 = .ok (.lmul, 1) := by decide +kernel
theorem dX6_mix_19 : decode cX6_mix 19 = .ok (.aload_n 0, 1) := by decide +kernel
theorem dX6_mix_20 : decode cX6_mix 20 = .ok (.iload 5, 2) := by decide +kernel
theorem dX6_mix_22 : decode cX6_mix 22 = .ok (.invokevirtual 25, 3) := by decide +kernel
theorem dX6_mix_25 : decode cX6_mix 25 = .ok (.i2l, 1) := by decide +kernel
theorem dX6_mix_26 : decode cX6_mix 26 = .ok (.ladd, 1) := by decide +kernel
theorem dX6_mix_27 : decode cX6_mix 27 = .ok (.lstore_n 3, 1) := by decide +kernel
theorem dX6_mix_28 : decode cX6_mix 28 = .ok (.iinc 5 1, 3) := by decide +kernel
theorem dX6_mix_31 : decode cX6_mix 31 = .ok (.goto (-26), 3) := by decide +kernel
theorem dX6_mix_34 : decode cX6_mix 34 = .ok (.lload_n 3, 1) := by decide +kernel
theorem dX6_mix_35 : decode cX6_mix 35 = .ok (.lreturn, 1) := by decide +kernel
theorem dX7_init_0 : decode cX7_init 0 = .ok (.aload_n 0, 1) := by decide +kernel
theorem dX7_init_1 : decode cX7_init 1 = .ok (.invokespecial 3, 3) := by decide +kernel
theorem dX7_init_4 : decode cX7_init 4 = .ok (.aload_n 0, 1) := by decide +kernel
theorem dX7_init_5 : decode cX7_init 5 = .ok (.bipush 6, 2) := by decide +kernel
theorem dX7_init_7 : decode cX7_init 7 = .ok (.anewarray 9, 3) := by decide +kernel
theorem dX7_init_10 : decode cX7_init 10 = .ok (.putfield 11, 3) := by decide +kernel
theorem dX7_init_13 : decode cX7_init 13 = .ok (.iconst 0, 1) := by decide +kernel
theorem dX7_init_14 : decode cX7_init 14 = .ok (.istore_n 1, 1) := by decide +kernel
theorem dX7_init_15 : decode cX7_init 15 = .ok (.iload_n 1, 1) := by decide +kernel
theorem dX7_init_16 : decode cX7_init 16 = .ok (.bipush 6, 2) := by decide +kernel
theorem dX7_init_18 : decode cX7_init 18 = .ok (.if_icmp .ge 24, 3) := by decide +kernel
theorem dX7_init_21 : decode cX7_init 21 = .ok (.aload_n 0, 1) := by decide +kernel
theorem dX7_init_22 : decode cX7_init 22 = .ok (.getfield 11, 3) := by decide +kernel
theorem dX7_init_25 : decode cX7_init 25 = .ok (.iload_n 1, 1) := by decide +kernel
theorem dX7_init_26 : decode cX7_init 26 = .ok (.new 9, 3) := by decide +kernel
theorem dX7_init_29 : decode cX7_init 29 = .ok (.dup, 1) := by decide +kernel
theorem dX7_init_30 : decode cX7_init 30 = .ok (.bipush 30, 2) := by decide +kernel
theorem dX7_init_32 : decode cX7_init 32 = .ok (.invokespecial 17, 3) := by decide +kernel
theorem dX7_init_35 : decode cX7_init 35 = .ok (.aastore, 1) := by decide +kernel
theorem dX7_init_36 : decode cX7_init 36 = .ok (.iinc 1 1, 3) := by decide +kernel
theorem dX7_init_39 : decode cX7_init 39 = .ok (.goto (-24), 3) := by decide +kernel
theorem dX7_init_42 : decode cX7_init 42 = .ok (.aload_n 0, 1) := by decide +kernel
theorem dX7_init_43 : decode cX7_init 43 = .ok (.iconst 0, 1) := by decide +kernel
theorem dX7_init_44 : decode cX7_init 44 = .ok (.putfield 20, 3) := by decide +kernel
theorem dX7_init_47 : decode cX7_init 47 = .ok (.return_, 1) := by decide +kernel
theorem dX7_has_0 : decode cX7_has 0 = .ok (.iconst 0, 1) := by decide +kernel
theorem dX7_has_1 : decode cX7_has 1 = .ok (.istore_n 2, 1) := by decide +kernel
theorem dX7_has_2 : decode cX7_has 2 = .ok (.iload_n 2, 1) := by decide +kernel
theorem dX7_has_3 : decode cX7_has 3 = .ok (.aload_n 0, 1) := by decide +kernel
theorem dX7_has_4 : decode cX7_has 4 = .ok (.getfield 20, 3) := by decide +kernel
theorem dX7_has_7 : decode cX7_has 7 = .ok (.if_icmp .ge 24, 3) := by decide +kernel
theorem dX7_has_10 : decode cX7_has 10 = .ok (.aload_n 0, 1) := by decide +kernel
theorem dX7_has_11 : decode cX7_has 11 = .ok (.getfield 11, 3) := by decide +kernel
theorem dX7_has_14 : decode cX7_has 14 = .ok (.iload_n 2, 1) := by decide +kernel
theorem dX7_has_15 : decode cX7_has 15 = .ok (.aaload, 1) := by decide +kernel
theorem dX7_has_16 : decode cX7_has 16 = .ok (.aload_n 1, 1) := by decide +kernel
theorem dX7_has_17 : decode cX7_has 17 = .ok (.invokevirtual 24, 3) := by decide +kernel
theorem dX7_has_20 : decode cX7_has 20 = .ok (.ifCond .eq 5, 3) := by decide +kernel
theorem dX7_has_23 : decode cX7_has 23 = .ok (.iconst 1, 1) := by decide +kernel
theorem dX7_has_24 : decode cX7_has 24 = .ok (.ireturn, 1) := by decide +kernel
theorem dX7_has_25 : decode cX7_has 25 = .ok (.iinc 2 1, 3) := by decide +kernel
theorem dX7_has_28 : decode cX7_has 28 = .ok (.goto (-26), 3) := by decide +kernel
theorem dX7_has_31 : decode cX7_has 31 = .ok (.iconst 0, 1) := by decide +kernel
theorem dX7_has_32 : decode cX7_has 32 = .ok (.ireturn, 1) := by decide +kernel
theorem dX7_append_0 : decode cX7_append 0 = .ok (.aload_n 0, 1) := by decide +kernel
theorem dX7_append_1 : decode cX7_append 1 = .ok (.getfield 20, 3) := by decide +kernel
theorem dX7_append_4 : decode cX7_append 4 = .ok (.bipush 6, 2) := by decide +kernel
theorem dX7_append_6 : decode cX7_append 6 = .ok (.if_icmp .ge 26, 3) := by decide +kernel
theorem dX7_append_9 : decode cX7_append 9 = .ok (.aload_n 0, 1) := by decide +kernel
theorem dX7_append_10 : decode cX7_append 10 = .ok (.getfield 11, 3) := by decide +kernel
theorem dX7_append_13 : decode cX7_append 13 = .ok (.aload_n 0, 1) := by decide +kernel
theorem dX7_append_14 : decode cX7_append 14 = .ok (.getfield 20, 3) := by decide +kernel
theorem dX7_append_17 : decode cX7_append 17 = .ok (.aaload, 1) := by decide +kernel
theorem dX7_append_18 : decode cX7_append 18 = .ok (.aload_n 1, 1) := by decide +kernel
theorem dX7_append_19 : decode cX7_append 19 = .ok (.invokevirtual 28, 3) := by decide +kernel
theorem dX7_append_22 : decode cX7_append 22 = .ok (.aload_n 0, 1) := by decide +kernel
theorem dX7_append_23 : decode cX7_append 23 = .ok (.dup, 1) := by decide +kernel
theorem dX7_append_24 : decode cX7_append 24 = .ok (.getfield 20, 3) := by decide +kernel
theorem dX7_append_27 : decode cX7_append 27 = .ok (.iconst 1, 1) := by decide +kernel
theorem dX7_append_28 : decode cX7_append 28 = .ok (.iadd, 1) := by decide +kernel
theorem dX7_append_29 : decode cX7_append 29 = .ok (.putfield 20, 3) := by decide +kernel
theorem dX7_append_32 : decode cX7_append 32 = .ok (.return_, 1) := by decide +kernel
theorem dX7_publicStart_0 : decode cX7_publicStart 0 = .ok (.aload_n 1, 1) := by decide +kernel
theorem dX7_publicStart_1 : decode cX7_publicStart 1 = .ok (.aload_n 1, 1) := by decide +kernel
theorem dX7_publicStart_2 : decode cX7_publicStart 2 = .ok (.getfield 32, 3) := by decide +kernel
theorem dX7_publicStart_5 : decode cX7_publicStart 5 = .ok (.invokestatic 35, 3) := by decide +kernel
theorem dX7_publicStart_8 : decode cX7_publicStart 8 = .ok (.istore_n 2, 1) := by decide +kernel
theorem dX7_publicStart_9 : decode cX7_publicStart 9 = .ok (.iconst 0, 1) := by decide +kernel
theorem dX7_publicStart_10 : decode cX7_publicStart 10 = .ok (.istore_n 3, 1) := by decide +kernel
theorem dX7_publicStart_11 : decode cX7_publicStart 11 = .ok (.iload_n 3, 1) := by decide +kernel
theorem dX7_publicStart_12 : decode cX7_publicStart 12 = .ok (.aload_n 0, 1) := by decide +kernel
theorem dX7_publicStart_13 : decode cX7_publicStart 13 = .ok (.getfield 20, 3) := by decide +kernel
theorem dX7_publicStart_16 : decode cX7_publicStart 16 = .ok (.if_icmp .ge 41, 3) := by decide +kernel
theorem dX7_publicStart_19 : decode cX7_publicStart 19 = .ok (.aload_n 1, 1) := by decide +kernel
theorem dX7_publicStart_20 : decode cX7_publicStart 20 = .ok (.aload_n 0, 1) := by decide +kernel
theorem dX7_publicStart_21 : decode cX7_publicStart 21 = .ok (.getfield 11, 3) := by decide +kernel
theorem dX7_publicStart_24 : decode cX7_publicStart 24 = .ok (.iload_n 3, 1) := by decide +kernel
theorem dX7_publicStart_25 : decode cX7_publicStart 25 = .ok (.aaload, 1) := by decide +kernel
theorem dX7_publicStart_26 : decode cX7_publicStart 26 = .ok (.invokevirtual 41, 3) := by decide +kernel
theorem dX7_publicStart_29 : decode cX7_publicStart 29 = .ok (.ifCond .eq 22, 3) := by decide +kernel
theorem dX7_publicStart_32 : decode cX7_publicStart 32 = .ok (.iload_n 2, 1) := by decide +kernel
theorem dX7_publicStart_33 : decode cX7_publicStart 33 = .ok (.aload_n 1, 1) := by decide +kernel
theorem dX7_publicStart_34 : decode cX7_publicStart 34 = .ok (.getfield 32, 3) := by decide +kernel
theorem dX7_publicStart_37 : decode cX7_publicStart 37 = .ok (.aload_n 0, 1) := by decide +kernel
theorem dX7_publicStart_38 : decode cX7_publicStart 38 = .ok (.getfield 11, 3) := by decide +kernel
theorem dX7_publicStart_41 : decode cX7_publicStart 41 = .ok (.iload_n 3, 1) := by decide +kernel
theorem dX7_publicStart_42 : decode cX7_publicStart 42 = .ok (.aaload, 1) := by decide +kernel
theorem dX7_publicStart_43 : decode cX7_publicStart 43 = .ok (.getfield 32, 3) := by decide +kernel
theorem dX7_publicStart_46 : decode cX7_publicStart 46 = .ok (.isub, 1) := by decide +kernel
theorem dX7_publicStart_47 : decode cX7_publicStart 47 = .ok (.invokestatic 44, 3) := by decide +kernel
theorem dX7_publicStart_50 : decode cX7_publicStart 50 = .ok (.istore_n 2, 1) := by decide +kernel
theorem dX7_publicStart_51 : decode cX7_publicStart 51 = .ok (.iinc 3 1, 3) := by decide +kernel
theorem dX7_publicStart_54 : decode cX7_publicStart 54 = .ok (.goto (-43), 3) := by decide +kernel
theorem dX7_publicStart_57 : decode cX7_publicStart 57 = .ok (.iload_n 2, 1) := by decide +kernel
theorem dX7_publicStart_58 : decode cX7_publicStart 58 = .ok (.ireturn, 1) := by decide +kernel
theorem dX7_isPublic_0 : decode cX7_isPublic 0 = .ok (.aload_n 0, 1) := by decide +kernel
theorem dX7_isPublic_1 : decode cX7_isPublic 1 = .ok (.aload_n 1, 1) := by decide +kernel
theorem dX7_isPublic_2 : decode cX7_isPublic 2 = .ok (.invokevirtual 50, 3) := by decide +kernel
theorem dX7_isPublic_5 : decode cX7_isPublic 5 = .ok (.ifCond .ne 7, 3) := by decide +kernel
theorem dX7_isPublic_8 : decode cX7_isPublic 8 = .ok (.iconst 1, 1) := by decide +kernel
theorem dX7_isPublic_9 : decode cX7_isPublic 9 = .ok (.goto 4, 3) := by decide +kernel
theorem dX7_isPublic_12 : decode cX7_isPublic 12 = .ok (.iconst 0, 1) := by decide +kernel
theorem dX7_isPublic_13 : decode cX7_isPublic 13 = .ok (.ireturn, 1) := by decide +kernel
theorem dX7_siteStart_0 : decode cX7_siteStart 0 = .ok (.aload_n 0, 1) := by decide +kernel
theorem dX7_siteStart_1 : decode cX7_siteStart 1 = .ok (.aload_n 1, 1) := by decide +kernel
theorem dX7_siteStart_2 : decode cX7_siteStart 2 = .ok (.invokevirtual 50, 3) := by decide +kernel
theorem dX7_siteStart_5 : decode cX7_siteStart 5 = .ok (.istore_n 2, 1) := by decide +kernel
theorem dX7_siteStart_6 : decode cX7_siteStart 6 = .ok (.iload_n 2, 1) := by decide +kernel
theorem dX7_siteStart_7 : decode cX7_siteStart 7 = .ok (.ifCond .ne 7, 3) := by decide +kernel
theorem dX7_siteStart_10 : decode cX7_siteStart 10 = .ok (.iconst 0, 1) := by decide +kernel
theorem dX7_siteStart_11 : decode cX7_siteStart 11 = .ok (.goto 10, 3) := by decide +kernel
theorem dX7_siteStart_14 : decode cX7_siteStart 14 = .ok (.aload_n 1, 1) := by decide +kernel
theorem dX7_siteStart_15 : decode cX7_siteStart 15 = .ok (.iload_n 2, 1) := by decide +kernel
theorem dX7_siteStart_16 : decode cX7_siteStart 16 = .ok (.iconst 1, 1) := by decide +kernel
theorem dX7_siteStart_17 : decode cX7_siteStart 17 = .ok (.isub, 1) := by decide +kernel
theorem dX7_siteStart_18 : decode cX7_siteStart 18 = .ok (.invokestatic 35, 3) := by decide +kernel
theorem dX7_siteStart_21 : decode cX7_siteStart 21 = .ok (.ireturn, 1) := by decide +kernel
theorem dX7_sameSites_0 : decode cX7_sameSites 0 = .ok (.aload_n 1, 1) := by decide +kernel
theorem dX7_sameSites_1 : decode cX7_sameSites 1 = .ok (.aload_n 0, 1) := by decide +kernel
theorem dX7_sameSites_2 : decode cX7_sameSites 2 = .ok (.aload_n 1, 1) := by decide +kernel
theorem dX7_sameSites_3 : decode cX7_sameSites 3 = .ok (.invokevirtual 54, 3) := by decide +kernel
theorem dX7_sameSites_6 : decode cX7_sameSites 6 = .ok (.aload_n 2, 1) := by decide +kernel
theorem dX7_sameSites_7 : decode cX7_sameSites 7 = .ok (.aload_n 0, 1) := by decide +kernel
theorem dX7_sameSites_8 : decode cX7_sameSites 8 = .ok (.aload_n 2, 1) := by decide +kernel
theorem dX7_sameSites_9 : decode cX7_sameSites 9 = .ok (.invokevirtual 54, 3) := by decide +kernel
theorem dX7_sameSites_12 : decode cX7_sameSites 12 = .ok (.invokevirtual 57, 3) := by decide +kernel
theorem dX7_sameSites_15 : decode cX7_sameSites 15 = .ok (.ireturn, 1) := by decide +kernel
theorem dX7_become_0 : decode cX7_become 0 = .ok (.aload_n 0, 1) := by decide +kernel
theorem dX7_become_1 : decode cX7_become 1 = .ok (.aload_n 1, 1) := by decide +kernel
theorem dX7_become_2 : decode cX7_become 2 = .ok (.getfield 20, 3) := by decide +kernel
theorem dX7_become_5 : decode cX7_become 5 = .ok (.putfield 20, 3) := by decide +kernel
theorem dX7_become_8 : decode cX7_become 8 = .ok (.iconst 0, 1) := by decide +kernel
theorem dX7_become_9 : decode cX7_become 9 = .ok (.istore_n 2, 1) := by decide +kernel
theorem dX7_become_10 : decode cX7_become 10 = .ok (.iload_n 2, 1) := by decide +kernel
theorem dX7_become_11 : decode cX7_become 11 = .ok (.aload_n 0, 1) := by decide +kernel
theorem dX7_become_12 : decode cX7_become 12 = .ok (.getfield 20, 3) := by decide +kernel
theorem dX7_become_15 : decode cX7_become 15 = .ok (.if_icmp .ge 24, 3) := by decide +kernel
theorem dX7_become_18 : decode cX7_become 18 = .ok (.aload_n 0, 1) := by decide +kernel
theorem dX7_become_19 : decode cX7_become 19 = .ok (.getfield 11, 3) := by decide +kernel
theorem dX7_become_22 : decode cX7_become 22 = .ok (.iload_n 2, 1) := by decide +kernel
theorem dX7_become_23 : decode cX7_become 23 = .ok (.aaload, 1) := by decide +kernel
theorem dX7_become_24 : decode cX7_become 24 = .ok (.aload_n 1, 1) := by decide +kernel
theorem dX7_become_25 : decode cX7_become 25 = .ok (.getfield 11, 3) := by decide +kernel
theorem dX7_become_28 : decode cX7_become 28 = .ok (.iload_n 2, 1) := by decide +kernel
theorem dX7_become_29 : decode cX7_become 29 = .ok (.aaload, 1) := by decide +kernel
theorem dX7_become_30 : decode cX7_become 30 = .ok (.invokevirtual 28, 3) := by decide +kernel
theorem dX7_become_33 : decode cX7_become 33 = .ok (.iinc 2 1, 3) := by decide +kernel
theorem dX7_become_36 : decode cX7_become 36 = .ok (.goto (-26), 3) := by decide +kernel
theorem dX7_become_39 : decode cX7_become 39 = .ok (.return_, 1) := by decide +kernel
theorem dX8_init_0 : decode cX8_init 0 = .ok (.aload_n 0, 1) := by decide +kernel
theorem dX8_init_1 : decode cX8_init 1 = .ok (.invokespecial 3, 3) := by decide +kernel
theorem dX8_init_4 : decode cX8_init 4 = .ok (.aload_n 0, 1) := by decide +kernel
theorem dX8_init_5 : decode cX8_init 5 = .ok (.new 9, 3) := by decide +kernel
theorem dX8_init_8 : decode cX8_init 8 = .ok (.dup, 1) := by decide +kernel
theorem dX8_init_9 : decode cX8_init 9 = .ok (.sipush 160, 3) := by decide +kernel
theorem dX8_init_12 : decode cX8_init 12 = .ok (.invokespecial 11, 3) := by decide +kernel
theorem dX8_init_15 : decode cX8_init 15 = .ok (.putfield 14, 3) := by decide +kernel
theorem dX8_init_18 : decode cX8_init 18 = .ok (.aload_n 0, 1) := by decide +kernel
theorem dX8_init_19 : decode cX8_init 19 = .ok (.new 18, 3) := by decide +kernel
theorem dX8_init_22 : decode cX8_init 22 = .ok (.dup, 1) := by decide +kernel
theorem dX8_init_23 : decode cX8_init 23 = .ok (.invokespecial 20, 3) := by decide +kernel
theorem dX8_init_26 : decode cX8_init 26 = .ok (.putfield 21, 3) := by decide +kernel
theorem dX8_init_29 : decode cX8_init 29 = .ok (.aload_n 0, 1) := by decide +kernel
theorem dX8_init_30 : decode cX8_init 30 = .ok (.new 25, 3) := by decide +kernel
theorem dX8_init_33 : decode cX8_init 33 = .ok (.dup, 1) := by decide +kernel
theorem dX8_init_34 : decode cX8_init 34 = .ok (.invokespecial 27, 3) := by decide +kernel
theorem dX8_init_37 : decode cX8_init 37 = .ok (.putfield 28, 3) := by decide +kernel
theorem dX8_init_40 : decode cX8_init 40 = .ok (.aload_n 0, 1) := by decide +kernel
theorem dX8_init_41 : decode cX8_init 41 = .ok (.iconst 2, 1) := by decide +kernel
theorem dX8_init_42 : decode cX8_init 42 = .ok (.anewarray 25, 3) := by decide +kernel
theorem dX8_init_45 : decode cX8_init 45 = .ok (.putfield 32, 3) := by decide +kernel
theorem dX8_init_48 : decode cX8_init 48 = .ok (.return_, 1) := by decide +kernel
theorem dX8_type_0 : decode cX8_type 0 = .ok (.iload_n 1, 1) := by decide +kernel
theorem dX8_type_1 : decode cX8_type 1 = .ok (.bipush 32, 2) := by decide +kernel
theorem dX8_type_3 : decode cX8_type 3 = .ok (.if_icmp .lt 9, 3) := by decide +kernel
theorem dX8_type_6 : decode cX8_type 6 = .ok (.iload_n 1, 1) := by decide +kernel
theorem dX8_type_7 : decode cX8_type 7 = .ok (.bipush 126, 2) := by decide +kernel
theorem dX8_type_9 : decode cX8_type 9 = .ok (.if_icmp .le 13, 3) := by decide +kernel
theorem dX8_type_12 : decode cX8_type 12 = .ok (.new 36, 3) := by decide +kernel
theorem dX8_type_15 : decode cX8_type 15 = .ok (.dup, 1) := by decide +kernel
theorem dX8_type_16 : decode cX8_type 16 = .ok (.ldc 38, 2) := by decide +kernel
theorem dX8_type_18 : decode cX8_type 18 = .ok (.invokespecial 40, 3) := by decide +kernel
theorem dX8_type_21 : decode cX8_type 21 = .ok (.athrow, 1) := by decide +kernel
theorem dX8_type_22 : decode cX8_type 22 = .ok (.aload_n 0, 1) := by decide +kernel
theorem dX8_type_23 : decode cX8_type 23 = .ok (.getfield 14, 3) := by decide +kernel
theorem dX8_type_26 : decode cX8_type 26 = .ok (.getfield 43, 3) := by decide +kernel
theorem dX8_type_29 : decode cX8_type 29 = .ok (.sipush 160, 3) := by decide +kernel
theorem dX8_type_32 : decode cX8_type 32 = .ok (.if_icmp .lt 13, 3) := by decide +kernel
theorem dX8_type_35 : decode cX8_type 35 = .ok (.new 47, 3) := by decide +kernel
theorem dX8_type_38 : decode cX8_type 38 = .ok (.dup, 1) := by decide +kernel
theorem dX8_type_39 : decode cX8_type 39 = .ok (.ldc 49, 2) := by decide +kernel
theorem dX8_type_41 : decode cX8_type 41 = .ok (.invokespecial 51, 3) := by decide +kernel
theorem dX8_type_44 : decode cX8_type 44 = .ok (.athrow, 1) := by decide +kernel
theorem dX8_type_45 : decode cX8_type 45 = .ok (.aload_n 0, 1) := by decide +kernel
theorem dX8_type_46 : decode cX8_type 46 = .ok (.getfield 14, 3) := by decide +kernel
theorem dX8_type_49 : decode cX8_type 49 = .ok (.iload_n 1, 1) := by decide +kernel
theorem dX8_type_50 : decode cX8_type 50 = .ok (.invokevirtual 52, 3) := by decide +kernel
theorem dX8_type_53 : decode cX8_type 53 = .ok (.aload_n 0, 1) := by decide +kernel
theorem dX8_type_54 : decode cX8_type 54 = .ok (.getfield 14, 3) := by decide +kernel
theorem dX8_type_57 : decode cX8_type 57 = .ok (.getfield 43, 3) := by decide +kernel
theorem dX8_type_60 : decode cX8_type 60 = .ok (.ireturn, 1) := by decide +kernel
theorem dX8_clearText_0 : decode cX8_clearText 0 = .ok (.aload_n 0, 1) := by decide +kernel
theorem dX8_clearText_1 : decode cX8_clearText 1 = .ok (.getfield 14, 3) := by decide +kernel
theorem dX8_clearText_4 : decode cX8_clearText 4 = .ok (.getfield 43, 3) := by decide +kernel
theorem dX8_clearText_7 : decode cX8_clearText 7 = .ok (.istore_n 1, 1) := by decide +kernel
theorem dX8_clearText_8 : decode cX8_clearText 8 = .ok (.aload_n 0, 1) := by decide +kernel
theorem dX8_clearText_9 : decode cX8_clearText 9 = .ok (.getfield 14, 3) := by decide +kernel
theorem dX8_clearText_12 : decode cX8_clearText 12 = .ok (.invokevirtual 55, 3) := by decide +kernel
theorem dX8_clearText_15 : decode cX8_clearText 15 = .ok (.iload_n 1, 1) := by decide +kernel
theorem dX8_clearText_16 : decode cX8_clearText 16 = .ok (.ireturn, 1) := by decide +kernel
theorem dX8_openPage_0 : decode cX8_openPage 0 = .ok (.aload_n 0, 1) := by decide +kernel
theorem dX8_openPage_1 : decode cX8_openPage 1 = .ok (.aload_n 0, 1) := by decide +kernel
theorem dX8_openPage_2 : decode cX8_openPage 2 = .ok (.getfield 28, 3) := by decide +kernel
theorem dX8_openPage_5 : decode cX8_openPage 5 = .ok (.getfield 58, 3) := by decide +kernel
theorem dX8_openPage_8 : decode cX8_openPage 8 = .ok (.invokevirtual 62, 3) := by decide +kernel
theorem dX8_openPage_11 : decode cX8_openPage 11 = .ok (.ireturn, 1) := by decide +kernel
theorem dX8_openRequest_0 : decode cX8_openRequest 0 = .ok (.aload_n 0, 1) := by decide +kernel
theorem dX8_openRequest_1 : decode cX8_openRequest 1 = .ok (.aload_n 0, 1) := by decide +kernel
theorem dX8_openRequest_2 : decode cX8_openRequest 2 = .ok (.getfield 28, 3) := by decide +kernel
theorem dX8_openRequest_5 : decode cX8_openRequest 5 = .ok (.getfield 66, 3) := by decide +kernel
theorem dX8_openRequest_8 : decode cX8_openRequest 8 = .ok (.invokevirtual 62, 3) := by decide +kernel
theorem dX8_openRequest_11 : decode cX8_openRequest 11 = .ok (.ireturn, 1) := by decide +kernel
theorem dX8_open_0 : decode cX8_open 0 = .ok (.aload_n 1, 1) := by decide +kernel
theorem dX8_open_1 : decode cX8_open 1 = .ok (.aload_n 0, 1) := by decide +kernel
theorem dX8_open_2 : decode cX8_open 2 = .ok (.getfield 14, 3) := by decide +kernel
theorem dX8_open_5 : decode cX8_open 5 = .ok (.invokevirtual 69, 3) := by decide +kernel
theorem dX8_open_8 : decode cX8_open 8 = .ok (.istore_n 2, 1) := by decide +kernel
theorem dX8_open_9 : decode cX8_open 9 = .ok (.iload_n 2, 1) := by decide +kernel
theorem dX8_open_10 : decode cX8_open 10 = .ok (.ifCond .lt 10, 3) := by decide +kernel
theorem dX8_open_13 : decode cX8_open 13 = .ok (.aload_n 0, 1) := by decide +kernel
theorem dX8_open_14 : decode cX8_open 14 = .ok (.getfield 14, 3) := by decide +kernel
theorem dX8_open_17 : decode cX8_open 17 = .ok (.invokevirtual 55, 3) := by decide +kernel
theorem dX8_open_20 : decode cX8_open 20 = .ok (.iload_n 2, 1) := by decide +kernel
theorem dX8_open_21 : decode cX8_open 21 = .ok (.ireturn, 1) := by decide +kernel
theorem dX8_isSameSite_0 : decode cX8_isSameSite 0 = .ok (.aload_n 0, 1) := by decide +kernel
theorem dX8_isSameSite_1 : decode cX8_isSameSite 1 = .ok (.invokevirtual 75, 3) := by decide +kernel
theorem dX8_isSameSite_4 : decode cX8_isSameSite 4 = .ok (.aload_n 0, 1) := by decide +kernel
theorem dX8_isSameSite_5 : decode cX8_isSameSite 5 = .ok (.getfield 28, 3) := by decide +kernel
theorem dX8_isSameSite_8 : decode cX8_isSameSite 8 = .ok (.invokevirtual 78, 3) := by decide +kernel
theorem dX8_isSameSite_11 : decode cX8_isSameSite 11 = .ok (.ifCond .ne 7, 3) := by decide +kernel
theorem dX8_isSameSite_14 : decode cX8_isSameSite 14 = .ok (.iconst 1, 1) := by decide +kernel
theorem dX8_isSameSite_15 : decode cX8_isSameSite 15 = .ok (.goto 4, 3) := by decide +kernel
theorem dX8_isSameSite_18 : decode cX8_isSameSite 18 = .ok (.iconst 0, 1) := by decide +kernel
theorem dX8_isSameSite_19 : decode cX8_isSameSite 19 = .ok (.ireturn, 1) := by decide +kernel
theorem dX8_siteChar_0 : decode cX8_siteChar 0 = .ok (.aload_n 0, 1) := by decide +kernel
theorem dX8_siteChar_1 : decode cX8_siteChar 1 = .ok (.invokevirtual 75, 3) := by decide +kernel
theorem dX8_siteChar_4 : decode cX8_siteChar 4 = .ok (.aload_n 0, 1) := by decide +kernel
theorem dX8_siteChar_5 : decode cX8_siteChar 5 = .ok (.iload_n 1, 1) := by decide +kernel
theorem dX8_siteChar_6 : decode cX8_siteChar 6 = .ok (.invokevirtual 82, 3) := by decide +kernel
theorem dX8_siteChar_9 : decode cX8_siteChar 9 = .ok (.aload_n 0, 1) := by decide +kernel
theorem dX8_siteChar_10 : decode cX8_siteChar 10 = .ok (.getfield 28, 3) := by decide +kernel
theorem dX8_siteChar_13 : decode cX8_siteChar 13 = .ok (.getfield 66, 3) := by decide +kernel
theorem dX8_siteChar_16 : decode cX8_siteChar 16 = .ok (.getfield 85, 3) := by decide +kernel
theorem dX8_siteChar_19 : decode cX8_siteChar 19 = .ok (.astore_n 2, 1) := by decide +kernel
theorem dX8_siteChar_20 : decode cX8_siteChar 20 = .ok (.aload_n 0, 1) := by decide +kernel
theorem dX8_siteChar_21 : decode cX8_siteChar 21 = .ok (.getfield 28, 3) := by decide +kernel
theorem dX8_siteChar_24 : decode cX8_siteChar 24 = .ok (.getfield 88, 3) := by decide +kernel
theorem dX8_siteChar_27 : decode cX8_siteChar 27 = .ok (.aload_n 2, 1) := by decide +kernel
theorem dX8_siteChar_28 : decode cX8_siteChar 28 = .ok (.invokevirtual 92, 3) := by decide +kernel
theorem dX8_siteChar_31 : decode cX8_siteChar 31 = .ok (.istore_n 3, 1) := by decide +kernel
theorem dX8_siteChar_32 : decode cX8_siteChar 32 = .ok (.iload_n 1, 1) := by decide +kernel
theorem dX8_siteChar_33 : decode cX8_siteChar 33 = .ok (.aload_n 2, 1) := by decide +kernel
theorem dX8_siteChar_34 : decode cX8_siteChar 34 = .ok (.getfield 43, 3) := by decide +kernel
theorem dX8_siteChar_37 : decode cX8_siteChar 37 = .ok (.if_icmp .ge 13, 3) := by decide +kernel
theorem dX8_siteChar_40 : decode cX8_siteChar 40 = .ok (.aload_n 2, 1) := by decide +kernel
theorem dX8_siteChar_41 : decode cX8_siteChar 41 = .ok (.iload_n 3, 1) := by decide +kernel
theorem dX8_siteChar_42 : decode cX8_siteChar 42 = .ok (.iload_n 1, 1) := by decide +kernel
theorem dX8_siteChar_43 : decode cX8_siteChar 43 = .ok (.iadd, 1) := by decide +kernel
theorem dX8_siteChar_44 : decode cX8_siteChar 44 = .ok (.invokevirtual 97, 3) := by decide +kernel
theorem dX8_siteChar_47 : decode cX8_siteChar 47 = .ok (.goto 4, 3) := by decide +kernel
theorem dX8_siteChar_50 : decode cX8_siteChar 50 = .ok (.iconst (-1), 1) := by decide +kernel
theorem dX8_siteChar_51 : decode cX8_siteChar 51 = .ok (.ireturn, 1) := by decide +kernel
theorem dX8_addSuffix_0 : decode cX8_addSuffix 0 = .ok (.aload_n 0, 1) := by decide +kernel
theorem dX8_addSuffix_1 : decode cX8_addSuffix 1 = .ok (.getfield 14, 3) := by decide +kernel
theorem dX8_addSuffix_4 : decode cX8_addSuffix 4 = .ok (.invokestatic 101, 3) := by decide +kernel
theorem dX8_addSuffix_7 : decode cX8_addSuffix 7 = .ok (.ifCond .ne 13, 3) := by decide +kernel
theorem dX8_addSuffix_10 : decode cX8_addSuffix 10 = .ok (.new 36, 3) := by decide +kernel
theorem dX8_addSuffix_13 : decode cX8_addSuffix 13 = .ok (.dup, 1) := by decide +kernel
theorem dX8_addSuffix_14 : decode cX8_addSuffix 14 = .ok (.ldc 107, 2) := by decide +kernel
theorem dX8_addSuffix_16 : decode cX8_addSuffix 16 = .ok (.invokespecial 40, 3) := by decide +kernel
theorem dX8_addSuffix_19 : decode cX8_addSuffix 19 = .ok (.athrow, 1) := by decide +kernel
theorem dX8_addSuffix_20 : decode cX8_addSuffix 20 = .ok (.aload_n 0, 1) := by decide +kernel
theorem dX8_addSuffix_21 : decode cX8_addSuffix 21 = .ok (.getfield 28, 3) := by decide +kernel
theorem dX8_addSuffix_24 : decode cX8_addSuffix 24 = .ok (.getfield 88, 3) := by decide +kernel
theorem dX8_addSuffix_27 : decode cX8_addSuffix 27 = .ok (.aload_n 0, 1) := by decide +kernel
theorem dX8_addSuffix_28 : decode cX8_addSuffix 28 = .ok (.getfield 14, 3) := by decide +kernel
theorem dX8_addSuffix_31 : decode cX8_addSuffix 31 = .ok (.invokevirtual 109, 3) := by decide +kernel
theorem dX8_addSuffix_34 : decode cX8_addSuffix 34 = .ok (.ifCond .eq 13, 3) := by decide +kernel
theorem dX8_addSuffix_37 : decode cX8_addSuffix 37 = .ok (.new 36, 3) := by decide +kernel
theorem dX8_addSuffix_40 : decode cX8_addSuffix 40 = .ok (.dup, 1) := by decide +kernel
theorem dX8_addSuffix_41 : decode cX8_addSuffix 41 = .ok (.ldc 112, 2) := by decide +kernel
theorem dX8_addSuffix_43 : decode cX8_addSuffix 43 = .ok (.invokespecial 40, 3) := by decide +kernel
theorem dX8_addSuffix_46 : decode cX8_addSuffix 46 = .ok (.athrow, 1) := by decide +kernel
theorem dX8_addSuffix_47 : decode cX8_addSuffix 47 = .ok (.aload_n 0, 1) := by decide +kernel
theorem dX8_addSuffix_48 : decode cX8_addSuffix 48 = .ok (.getfield 28, 3) := by decide +kernel
theorem dX8_addSuffix_51 : decode cX8_addSuffix 51 = .ok (.getfield 88, 3) := by decide +kernel
theorem dX8_addSuffix_54 : decode cX8_addSuffix 54 = .ok (.getfield 114, 3) := by decide +kernel
theorem dX8_addSuffix_57 : decode cX8_addSuffix 57 = .ok (.bipush 6, 2) := by decide +kernel
theorem dX8_addSuffix_59 : decode cX8_addSuffix 59 = .ok (.if_icmp .lt 13, 3) := by decide +kernel
theorem dX8_addSuffix_62 : decode cX8_addSuffix 62 = .ok (.new 47, 3) := by decide +kernel
theorem dX8_addSuffix_65 : decode cX8_addSuffix 65 = .ok (.dup, 1) := by decide +kernel
theorem dX8_addSuffix_66 : decode cX8_addSuffix 66 = .ok (.ldc 117, 2) := by decide +kernel
theorem dX8_addSuffix_68 : decode cX8_addSuffix 68 = .ok (.invokespecial 51, 3) := by decide +kernel
theorem dX8_addSuffix_71 : decode cX8_addSuffix 71 = .ok (.athrow, 1) := by decide +kernel
theorem dX8_addSuffix_72 : decode cX8_addSuffix 72 = .ok (.aload_n 0, 1) := by decide +kernel
theorem dX8_addSuffix_73 : decode cX8_addSuffix 73 = .ok (.getfield 28, 3) := by decide +kernel
theorem dX8_addSuffix_76 : decode cX8_addSuffix 76 = .ok (.getfield 88, 3) := by decide +kernel
theorem dX8_addSuffix_79 : decode cX8_addSuffix 79 = .ok (.aload_n 0, 1) := by decide +kernel
theorem dX8_addSuffix_80 : decode cX8_addSuffix 80 = .ok (.getfield 14, 3) := by decide +kernel
theorem dX8_addSuffix_83 : decode cX8_addSuffix 83 = .ok (.invokevirtual 119, 3) := by decide +kernel
theorem dX8_addSuffix_86 : decode cX8_addSuffix 86 = .ok (.aload_n 0, 1) := by decide +kernel
theorem dX8_addSuffix_87 : decode cX8_addSuffix 87 = .ok (.getfield 14, 3) := by decide +kernel
theorem dX8_addSuffix_90 : decode cX8_addSuffix 90 = .ok (.invokevirtual 55, 3) := by decide +kernel
theorem dX8_addSuffix_93 : decode cX8_addSuffix 93 = .ok (.aload_n 0, 1) := by decide +kernel
theorem dX8_addSuffix_94 : decode cX8_addSuffix 94 = .ok (.getfield 28, 3) := by decide +kernel
theorem dX8_addSuffix_97 : decode cX8_addSuffix 97 = .ok (.getfield 88, 3) := by decide +kernel
theorem dX8_addSuffix_100 : decode cX8_addSuffix 100 = .ok (.getfield 114, 3) := by decide +kernel
theorem dX8_addSuffix_103 : decode cX8_addSuffix 103 = .ok (.ireturn, 1) := by decide +kernel
theorem dX8_receive_0 : decode cX8_receive 0 = .ok (.aload_n 0, 1) := by decide +kernel
theorem dX8_receive_1 : decode cX8_receive 1 = .ok (.invokevirtual 75, 3) := by decide +kernel
theorem dX8_receive_4 : decode cX8_receive 4 = .ok (.aload_n 0, 1) := by decide +kernel
theorem dX8_receive_5 : decode cX8_receive 5 = .ok (.getfield 21, 3) := by decide +kernel
theorem dX8_receive_8 : decode cX8_receive 8 = .ok (.aload_n 0, 1) := by decide +kernel
theorem dX8_receive_9 : decode cX8_receive 9 = .ok (.getfield 14, 3) := by decide +kernel
theorem dX8_receive_12 : decode cX8_receive 12 = .ok (.invokevirtual 123, 3) := by decide +kernel
theorem dX8_receive_15 : decode cX8_receive 15 = .ok (.aload_n 0, 1) := by decide +kernel
theorem dX8_receive_16 : decode cX8_receive 16 = .ok (.getfield 14, 3) := by decide +kernel
theorem dX8_receive_19 : decode cX8_receive 19 = .ok (.invokevirtual 55, 3) := by decide +kernel
theorem dX8_receive_22 : decode cX8_receive 22 = .ok (.aload_n 0, 1) := by decide +kernel
theorem dX8_receive_23 : decode cX8_receive 23 = .ok (.getfield 28, 3) := by decide +kernel
theorem dX8_receive_26 : decode cX8_receive 26 = .ok (.aload_n 0, 1) := by decide +kernel
theorem dX8_receive_27 : decode cX8_receive 27 = .ok (.getfield 21, 3) := by decide +kernel
theorem dX8_receive_30 : decode cX8_receive 30 = .ok (.iload_n 1, 1) := by decide +kernel
theorem dX8_receive_31 : decode cX8_receive 31 = .ok (.invokevirtual 125, 3) := by decide +kernel
theorem dX8_receive_34 : decode cX8_receive 34 = .ok (.istore_n 2, 1) := by decide +kernel
theorem dX8_receive_35 : decode cX8_receive 35 = .ok (.iload_n 2, 1) := by decide +kernel
theorem dX8_receive_36 : decode cX8_receive 36 = .ok (.iconst 1, 1) := by decide +kernel
theorem dX8_receive_37 : decode cX8_receive 37 = .ok (.if_icmp .eq 8, 3) := by decide +kernel
theorem dX8_receive_40 : decode cX8_receive 40 = .ok (.iload_n 2, 1) := by decide +kernel
theorem dX8_receive_41 : decode cX8_receive 41 = .ok (.iconst 2, 1) := by decide +kernel
theorem dX8_receive_42 : decode cX8_receive 42 = .ok (.if_icmp .ne 10, 3) := by decide +kernel
theorem dX8_receive_45 : decode cX8_receive 45 = .ok (.aload_n 0, 1) := by decide +kernel
theorem dX8_receive_46 : decode cX8_receive 46 = .ok (.getfield 28, 3) := by decide +kernel
theorem dX8_receive_49 : decode cX8_receive 49 = .ok (.invokevirtual 129, 3) := by decide +kernel
theorem dX8_receive_52 : decode cX8_receive 52 = .ok (.iload_n 2, 1) := by decide +kernel
theorem dX8_receive_53 : decode cX8_receive 53 = .ok (.ireturn, 1) := by decide +kernel
theorem dX8_rejection_0 : decode cX8_rejection 0 = .ok (.iload_n 1, 1) := by decide +kernel
theorem dX8_rejection_1 : decode cX8_rejection 1 = .ok (.ifCond .eq 18, 3) := by decide +kernel
theorem dX8_rejection_4 : decode cX8_rejection 4 = .ok (.iload_n 1, 1) := by decide +kernel
theorem dX8_rejection_5 : decode cX8_rejection 5 = .ok (.iconst 1, 1) := by decide +kernel
theorem dX8_rejection_6 : decode cX8_rejection 6 = .ok (.if_icmp .eq 13, 3) := by decide +kernel
theorem dX8_rejection_9 : decode cX8_rejection 9 = .ok (.new 132, 3) := by decide +kernel
theorem dX8_rejection_12 : decode cX8_rejection 12 = .ok (.dup, 1) := by decide +kernel
theorem dX8_rejection_13 : decode cX8_rejection 13 = .ok (.ldc 134, 2) := by decide +kernel
theorem dX8_rejection_15 : decode cX8_rejection 15 = .ok (.invokespecial 136, 3) := by decide +kernel
theorem dX8_rejection_18 : decode cX8_rejection 18 = .ok (.athrow, 1) := by decide +kernel
theorem dX8_rejection_19 : decode cX8_rejection 19 = .ok (.iload_n 1, 1) := by decide +kernel
theorem dX8_rejection_20 : decode cX8_rejection 20 = .ok (.ifCond .ne 16, 3) := by decide +kernel
theorem dX8_rejection_23 : decode cX8_rejection 23 = .ok (.aload_n 0, 1) := by decide +kernel
theorem dX8_rejection_24 : decode cX8_rejection 24 = .ok (.getfield 28, 3) := by decide +kernel
theorem dX8_rejection_27 : decode cX8_rejection 27 = .ok (.getfield 137, 3) := by decide +kernel
theorem dX8_rejection_30 : decode cX8_rejection 30 = .ok (.bipush 10, 2) := by decide +kernel
theorem dX8_rejection_32 : decode cX8_rejection 32 = .ok (.idiv, 1) := by decide +kernel
theorem dX8_rejection_33 : decode cX8_rejection 33 = .ok (.goto 10, 3) := by decide +kernel
theorem dX8_rejection_36 : decode cX8_rejection 36 = .ok (.aload_n 0, 1) := by decide +kernel
theorem dX8_rejection_37 : decode cX8_rejection 37 = .ok (.getfield 28, 3) := by decide +kernel
theorem dX8_rejection_40 : decode cX8_rejection 40 = .ok (.getfield 137, 3) := by decide +kernel
theorem dX8_rejection_43 : decode cX8_rejection 43 = .ok (.ireturn, 1) := by decide +kernel
theorem dX8_send_0 : decode cX8_send 0 = .ok (.aload_n 0, 1) := by decide +kernel
theorem dX8_send_1 : decode cX8_send 1 = .ok (.invokevirtual 75, 3) := by decide +kernel
theorem dX8_send_4 : decode cX8_send 4 = .ok (.aload_n 0, 1) := by decide +kernel
theorem dX8_send_5 : decode cX8_send 5 = .ok (.getfield 28, 3) := by decide +kernel
theorem dX8_send_8 : decode cX8_send 8 = .ok (.aload_n 0, 1) := by decide +kernel
theorem dX8_send_9 : decode cX8_send 9 = .ok (.getfield 28, 3) := by decide +kernel
theorem dX8_send_12 : decode cX8_send 12 = .ok (.invokevirtual 78, 3) := by decide +kernel
theorem dX8_send_15 : decode cX8_send 15 = .ok (.iload_n 1, 1) := by decide +kernel
theorem dX8_send_16 : decode cX8_send 16 = .ok (.iload_n 2, 1) := by decide +kernel
theorem dX8_send_17 : decode cX8_send 17 = .ok (.invokevirtual 140, 3) := by decide +kernel
theorem dX8_send_20 : decode cX8_send 20 = .ok (.ireturn, 1) := by decide +kernel
theorem dX8_headerChar_0 : decode cX8_headerChar 0 = .ok (.aload_n 0, 1) := by decide +kernel
theorem dX8_headerChar_1 : decode cX8_headerChar 1 = .ok (.iload_n 1, 1) := by decide +kernel
theorem dX8_headerChar_2 : decode cX8_headerChar 2 = .ok (.invokevirtual 82, 3) := by decide +kernel
theorem dX8_headerChar_5 : decode cX8_headerChar 5 = .ok (.aload_n 0, 1) := by decide +kernel
theorem dX8_headerChar_6 : decode cX8_headerChar 6 = .ok (.getfield 28, 3) := by decide +kernel
theorem dX8_headerChar_9 : decode cX8_headerChar 9 = .ok (.getfield 144, 3) := by decide +kernel
theorem dX8_headerChar_12 : decode cX8_headerChar 12 = .ok (.iload_n 1, 1) := by decide +kernel
theorem dX8_headerChar_13 : decode cX8_headerChar 13 = .ok (.invokevirtual 97, 3) := by decide +kernel
theorem dX8_headerChar_16 : decode cX8_headerChar 16 = .ok (.ireturn, 1) := by decide +kernel
theorem dX8_wouldSend_0 : decode cX8_wouldSend 0 = .ok (.aload_n 0, 1) := by decide +kernel
theorem dX8_wouldSend_1 : decode cX8_wouldSend 1 = .ok (.invokevirtual 75, 3) := by decide +kernel
theorem dX8_wouldSend_4 : decode cX8_wouldSend 4 = .ok (.aload_n 0, 1) := by decide +kernel
theorem dX8_wouldSend_5 : decode cX8_wouldSend 5 = .ok (.getfield 28, 3) := by decide +kernel
theorem dX8_wouldSend_8 : decode cX8_wouldSend 8 = .ok (.aload_n 0, 1) := by decide +kernel
theorem dX8_wouldSend_9 : decode cX8_wouldSend 9 = .ok (.iload_n 1, 1) := by decide +kernel
theorem dX8_wouldSend_10 : decode cX8_wouldSend 10 = .ok (.invokevirtual 147, 3) := by decide +kernel
theorem dX8_wouldSend_13 : decode cX8_wouldSend 13 = .ok (.aload_n 0, 1) := by decide +kernel
theorem dX8_wouldSend_14 : decode cX8_wouldSend 14 = .ok (.getfield 28, 3) := by decide +kernel
theorem dX8_wouldSend_17 : decode cX8_wouldSend 17 = .ok (.invokevirtual 78, 3) := by decide +kernel
theorem dX8_wouldSend_20 : decode cX8_wouldSend 20 = .ok (.iload_n 2, 1) := by decide +kernel
theorem dX8_wouldSend_21 : decode cX8_wouldSend 21 = .ok (.iload_n 3, 1) := by decide +kernel
theorem dX8_wouldSend_22 : decode cX8_wouldSend 22 = .ok (.invokevirtual 151, 3) := by decide +kernel
theorem dX8_wouldSend_25 : decode cX8_wouldSend 25 = .ok (.ireturn, 1) := by decide +kernel
theorem dX8_cookies_0 : decode cX8_cookies 0 = .ok (.aload_n 0, 1) := by decide +kernel
theorem dX8_cookies_1 : decode cX8_cookies 1 = .ok (.getfield 28, 3) := by decide +kernel
theorem dX8_cookies_4 : decode cX8_cookies 4 = .ok (.getfield 155, 3) := by decide +kernel
theorem dX8_cookies_7 : decode cX8_cookies 7 = .ok (.ireturn, 1) := by decide +kernel
theorem dX8_nameChar_0 : decode cX8_nameChar 0 = .ok (.aload_n 0, 1) := by decide +kernel
theorem dX8_nameChar_1 : decode cX8_nameChar 1 = .ok (.iload_n 2, 1) := by decide +kernel
theorem dX8_nameChar_2 : decode cX8_nameChar 2 = .ok (.invokevirtual 82, 3) := by decide +kernel
theorem dX8_nameChar_5 : decode cX8_nameChar 5 = .ok (.aload_n 0, 1) := by decide +kernel
theorem dX8_nameChar_6 : decode cX8_nameChar 6 = .ok (.iload_n 1, 1) := by decide +kernel
theorem dX8_nameChar_7 : decode cX8_nameChar 7 = .ok (.invokevirtual 147, 3) := by decide +kernel
theorem dX8_nameChar_10 : decode cX8_nameChar 10 = .ok (.getfield 156, 3) := by decide +kernel
theorem dX8_nameChar_13 : decode cX8_nameChar 13 = .ok (.iload_n 2, 1) := by decide +kernel
theorem dX8_nameChar_14 : decode cX8_nameChar 14 = .ok (.invokevirtual 97, 3) := by decide +kernel
theorem dX8_nameChar_17 : decode cX8_nameChar 17 = .ok (.ireturn, 1) := by decide +kernel
theorem dX8_valueChar_0 : decode cX8_valueChar 0 = .ok (.aload_n 0, 1) := by decide +kernel
theorem dX8_valueChar_1 : decode cX8_valueChar 1 = .ok (.iload_n 2, 1) := by decide +kernel
theorem dX8_valueChar_2 : decode cX8_valueChar 2 = .ok (.invokevirtual 82, 3) := by decide +kernel
theorem dX8_valueChar_5 : decode cX8_valueChar 5 = .ok (.aload_n 0, 1) := by decide +kernel
theorem dX8_valueChar_6 : decode cX8_valueChar 6 = .ok (.iload_n 1, 1) := by decide +kernel
theorem dX8_valueChar_7 : decode cX8_valueChar 7 = .ok (.invokevirtual 147, 3) := by decide +kernel
theorem dX8_valueChar_10 : decode cX8_valueChar 10 = .ok (.getfield 161, 3) := by decide +kernel
theorem dX8_valueChar_13 : decode cX8_valueChar 13 = .ok (.iload_n 2, 1) := by decide +kernel
theorem dX8_valueChar_14 : decode cX8_valueChar 14 = .ok (.invokevirtual 97, 3) := by decide +kernel
theorem dX8_valueChar_17 : decode cX8_valueChar 17 = .ok (.ireturn, 1) := by decide +kernel
theorem dX8_domainChar_0 : decode cX8_domainChar 0 = .ok (.aload_n 0, 1) := by decide +kernel
theorem dX8_domainChar_1 : decode cX8_domainChar 1 = .ok (.iload_n 2, 1) := by decide +kernel
theorem dX8_domainChar_2 : decode cX8_domainChar 2 = .ok (.invokevirtual 82, 3) := by decide +kernel
theorem dX8_domainChar_5 : decode cX8_domainChar 5 = .ok (.aload_n 0, 1) := by decide +kernel
theorem dX8_domainChar_6 : decode cX8_domainChar 6 = .ok (.iload_n 1, 1) := by decide +kernel
theorem dX8_domainChar_7 : decode cX8_domainChar 7 = .ok (.invokevirtual 147, 3) := by decide +kernel
theorem dX8_domainChar_10 : decode cX8_domainChar 10 = .ok (.getfield 164, 3) := by decide +kernel
theorem dX8_domainChar_13 : decode cX8_domainChar 13 = .ok (.iload_n 2, 1) := by decide +kernel
theorem dX8_domainChar_14 : decode cX8_domainChar 14 = .ok (.invokevirtual 97, 3) := by decide +kernel
theorem dX8_domainChar_17 : decode cX8_domainChar 17 = .ok (.ireturn, 1) := by decide +kernel
theorem dX8_pathChar_0 : decode cX8_pathChar 0 = .ok (.aload_n 0, 1) := by decide +kernel
theorem dX8_pathChar_1 : decode cX8_pathChar 1 = .ok (.iload_n 2, 1) := by decide +kernel
theorem dX8_pathChar_2 : decode cX8_pathChar 2 = .ok (.invokevirtual 82, 3) := by decide +kernel
theorem dX8_pathChar_5 : decode cX8_pathChar 5 = .ok (.aload_n 0, 1) := by decide +kernel
theorem dX8_pathChar_6 : decode cX8_pathChar 6 = .ok (.iload_n 1, 1) := by decide +kernel
theorem dX8_pathChar_7 : decode cX8_pathChar 7 = .ok (.invokevirtual 147, 3) := by decide +kernel
theorem dX8_pathChar_10 : decode cX8_pathChar 10 = .ok (.getfield 167, 3) := by decide +kernel
theorem dX8_pathChar_13 : decode cX8_pathChar 13 = .ok (.iload_n 2, 1) := by decide +kernel
theorem dX8_pathChar_14 : decode cX8_pathChar 14 = .ok (.invokevirtual 97, 3) := by decide +kernel
theorem dX8_pathChar_17 : decode cX8_pathChar 17 = .ok (.ireturn, 1) := by decide +kernel
theorem dX8_expiry_0 : decode cX8_expiry 0 = .ok (.aload_n 0, 1) := by decide +kernel
theorem dX8_expiry_1 : decode cX8_expiry 1 = .ok (.iload_n 1, 1) := by decide +kernel
theorem dX8_expiry_2 : decode cX8_expiry 2 = .ok (.invokevirtual 147, 3) := by decide +kernel
theorem dX8_expiry_5 : decode cX8_expiry 5 = .ok (.getfield 170, 3) := by decide +kernel
theorem dX8_expiry_8 : decode cX8_expiry 8 = .ok (.lreturn, 1) := by decide +kernel
theorem dX8_created_0 : decode cX8_created 0 = .ok (.aload_n 0, 1) := by decide +kernel
theorem dX8_created_1 : decode cX8_created 1 = .ok (.iload_n 1, 1) := by decide +kernel
theorem dX8_created_2 : decode cX8_created 2 = .ok (.invokevirtual 147, 3) := by decide +kernel
theorem dX8_created_5 : decode cX8_created 5 = .ok (.getfield 174, 3) := by decide +kernel
theorem dX8_created_8 : decode cX8_created 8 = .ok (.lreturn, 1) := by decide +kernel
theorem dX8_accessed_0 : decode cX8_accessed 0 = .ok (.aload_n 0, 1) := by decide +kernel
theorem dX8_accessed_1 : decode cX8_accessed 1 = .ok (.iload_n 1, 1) := by decide +kernel
theorem dX8_accessed_2 : decode cX8_accessed 2 = .ok (.invokevirtual 147, 3) := by decide +kernel
theorem dX8_accessed_5 : decode cX8_accessed 5 = .ok (.getfield 177, 3) := by decide +kernel
theorem dX8_accessed_8 : decode cX8_accessed 8 = .ok (.lreturn, 1) := by decide +kernel
theorem dX8_serial_0 : decode cX8_serial 0 = .ok (.aload_n 0, 1) := by decide +kernel
theorem dX8_serial_1 : decode cX8_serial 1 = .ok (.iload_n 1, 1) := by decide +kernel
theorem dX8_serial_2 : decode cX8_serial 2 = .ok (.invokevirtual 147, 3) := by decide +kernel
theorem dX8_serial_5 : decode cX8_serial 5 = .ok (.getfield 180, 3) := by decide +kernel
theorem dX8_serial_8 : decode cX8_serial 8 = .ok (.ireturn, 1) := by decide +kernel
theorem dX8_isHostOnly_0 : decode cX8_isHostOnly 0 = .ok (.aload_n 0, 1) := by decide +kernel
theorem dX8_isHostOnly_1 : decode cX8_isHostOnly 1 = .ok (.iload_n 1, 1) := by decide +kernel
theorem dX8_isHostOnly_2 : decode cX8_isHostOnly 2 = .ok (.invokevirtual 147, 3) := by decide +kernel
theorem dX8_isHostOnly_5 : decode cX8_isHostOnly 5 = .ok (.getfield 183, 3) := by decide +kernel
theorem dX8_isHostOnly_8 : decode cX8_isHostOnly 8 = .ok (.ireturn, 1) := by decide +kernel
theorem dX8_isSecure_0 : decode cX8_isSecure 0 = .ok (.aload_n 0, 1) := by decide +kernel
theorem dX8_isSecure_1 : decode cX8_isSecure 1 = .ok (.iload_n 1, 1) := by decide +kernel
theorem dX8_isSecure_2 : decode cX8_isSecure 2 = .ok (.invokevirtual 147, 3) := by decide +kernel
theorem dX8_isSecure_5 : decode cX8_isSecure 5 = .ok (.getfield 187, 3) := by decide +kernel
theorem dX8_isSecure_8 : decode cX8_isSecure 8 = .ok (.ireturn, 1) := by decide +kernel
theorem dX8_isHttpOnly_0 : decode cX8_isHttpOnly 0 = .ok (.aload_n 0, 1) := by decide +kernel
theorem dX8_isHttpOnly_1 : decode cX8_isHttpOnly 1 = .ok (.iload_n 1, 1) := by decide +kernel
theorem dX8_isHttpOnly_2 : decode cX8_isHttpOnly 2 = .ok (.invokevirtual 147, 3) := by decide +kernel
theorem dX8_isHttpOnly_5 : decode cX8_isHttpOnly 5 = .ok (.getfield 190, 3) := by decide +kernel
theorem dX8_isHttpOnly_8 : decode cX8_isHttpOnly 8 = .ok (.ireturn, 1) := by decide +kernel
theorem dX8_sameSite_0 : decode cX8_sameSite 0 = .ok (.aload_n 0, 1) := by decide +kernel
theorem dX8_sameSite_1 : decode cX8_sameSite 1 = .ok (.iload_n 1, 1) := by decide +kernel
theorem dX8_sameSite_2 : decode cX8_sameSite 2 = .ok (.invokevirtual 147, 3) := by decide +kernel
theorem dX8_sameSite_5 : decode cX8_sameSite 5 = .ok (.getfield 193, 3) := by decide +kernel
theorem dX8_sameSite_8 : decode cX8_sameSite 8 = .ok (.ireturn, 1) := by decide +kernel
theorem dX8_priority_0 : decode cX8_priority 0 = .ok (.aload_n 0, 1) := by decide +kernel
theorem dX8_priority_1 : decode cX8_priority 1 = .ok (.iload_n 1, 1) := by decide +kernel
theorem dX8_priority_2 : decode cX8_priority 2 = .ok (.invokevirtual 147, 3) := by decide +kernel
theorem dX8_priority_5 : decode cX8_priority 5 = .ok (.getfield 196, 3) := by decide +kernel
theorem dX8_priority_8 : decode cX8_priority 8 = .ok (.ireturn, 1) := by decide +kernel
theorem dX8_firstFrom_0 : decode cX8_firstFrom 0 = .ok (.aload_n 0, 1) := by decide +kernel
theorem dX8_firstFrom_1 : decode cX8_firstFrom 1 = .ok (.getfield 14, 3) := by decide +kernel
theorem dX8_firstFrom_4 : decode cX8_firstFrom 4 = .ok (.invokestatic 101, 3) := by decide +kernel
theorem dX8_firstFrom_7 : decode cX8_firstFrom 7 = .ok (.ifCond .ne 13, 3) := by decide +kernel
theorem dX8_firstFrom_10 : decode cX8_firstFrom 10 = .ok (.new 36, 3) := by decide +kernel
theorem dX8_firstFrom_13 : decode cX8_firstFrom 13 = .ok (.dup, 1) := by decide +kernel
theorem dX8_firstFrom_14 : decode cX8_firstFrom 14 = .ok (.ldc 107, 2) := by decide +kernel
theorem dX8_firstFrom_16 : decode cX8_firstFrom 16 = .ok (.invokespecial 40, 3) := by decide +kernel
theorem dX8_firstFrom_19 : decode cX8_firstFrom 19 = .ok (.athrow, 1) := by decide +kernel
theorem dX8_firstFrom_20 : decode cX8_firstFrom 20 = .ok (.aload_n 0, 1) := by decide +kernel
theorem dX8_firstFrom_21 : decode cX8_firstFrom 21 = .ok (.getfield 28, 3) := by decide +kernel
theorem dX8_firstFrom_24 : decode cX8_firstFrom 24 = .ok (.aload_n 0, 1) := by decide +kernel
theorem dX8_firstFrom_25 : decode cX8_firstFrom 25 = .ok (.getfield 14, 3) := by decide +kernel
theorem dX8_firstFrom_28 : decode cX8_firstFrom 28 = .ok (.invokevirtual 199, 3) := by decide +kernel
theorem dX8_firstFrom_31 : decode cX8_firstFrom 31 = .ok (.ireturn, 1) := by decide +kernel
theorem dX8_remove_0 : decode cX8_remove 0 = .ok (.aload_n 0, 1) := by decide +kernel
theorem dX8_remove_1 : decode cX8_remove 1 = .ok (.iload_n 1, 1) := by decide +kernel
theorem dX8_remove_2 : decode cX8_remove 2 = .ok (.invokevirtual 202, 3) := by decide +kernel
theorem dX8_remove_5 : decode cX8_remove 5 = .ok (.aload_n 0, 1) := by decide +kernel
theorem dX8_remove_6 : decode cX8_remove 6 = .ok (.getfield 28, 3) := by decide +kernel
theorem dX8_remove_9 : decode cX8_remove 9 = .ok (.iload_n 1, 1) := by decide +kernel
theorem dX8_remove_10 : decode cX8_remove 10 = .ok (.invokevirtual 205, 3) := by decide +kernel
theorem dX8_remove_13 : decode cX8_remove 13 = .ok (.aload_n 0, 1) := by decide +kernel
theorem dX8_remove_14 : decode cX8_remove 14 = .ok (.getfield 28, 3) := by decide +kernel
theorem dX8_remove_17 : decode cX8_remove 17 = .ok (.getfield 155, 3) := by decide +kernel
theorem dX8_remove_20 : decode cX8_remove 20 = .ok (.ireturn, 1) := by decide +kernel
theorem dX8_clearSite_0 : decode cX8_clearSite 0 = .ok (.aload_n 0, 1) := by decide +kernel
theorem dX8_clearSite_1 : decode cX8_clearSite 1 = .ok (.invokevirtual 75, 3) := by decide +kernel
theorem dX8_clearSite_4 : decode cX8_clearSite 4 = .ok (.aload_n 0, 1) := by decide +kernel
theorem dX8_clearSite_5 : decode cX8_clearSite 5 = .ok (.getfield 28, 3) := by decide +kernel
theorem dX8_clearSite_8 : decode cX8_clearSite 8 = .ok (.aload_n 0, 1) := by decide +kernel
theorem dX8_clearSite_9 : decode cX8_clearSite 9 = .ok (.getfield 28, 3) := by decide +kernel
theorem dX8_clearSite_12 : decode cX8_clearSite 12 = .ok (.getfield 66, 3) := by decide +kernel
theorem dX8_clearSite_15 : decode cX8_clearSite 15 = .ok (.getfield 85, 3) := by decide +kernel
theorem dX8_clearSite_18 : decode cX8_clearSite 18 = .ok (.invokevirtual 208, 3) := by decide +kernel
theorem dX8_clearSite_21 : decode cX8_clearSite 21 = .ok (.ireturn, 1) := by decide +kernel
theorem dX8_endSession_0 : decode cX8_endSession 0 = .ok (.aload_n 0, 1) := by decide +kernel
theorem dX8_endSession_1 : decode cX8_endSession 1 = .ok (.getfield 28, 3) := by decide +kernel
theorem dX8_endSession_4 : decode cX8_endSession 4 = .ok (.invokevirtual 211, 3) := by decide +kernel
theorem dX8_endSession_7 : decode cX8_endSession 7 = .ok (.ireturn, 1) := by decide +kernel
theorem dX8_advance_0 : decode cX8_advance 0 = .ok (.iload_n 1, 1) := by decide +kernel
theorem dX8_advance_1 : decode cX8_advance 1 = .ok (.ifCond .ge 13, 3) := by decide +kernel
theorem dX8_advance_4 : decode cX8_advance 4 = .ok (.new 36, 3) := by decide +kernel
theorem dX8_advance_7 : decode cX8_advance 7 = .ok (.dup, 1) := by decide +kernel
theorem dX8_advance_8 : decode cX8_advance 8 = .ok (.ldc 215, 2) := by decide +kernel
theorem dX8_advance_10 : decode cX8_advance 10 = .ok (.invokespecial 40, 3) := by decide +kernel
theorem dX8_advance_13 : decode cX8_advance 13 = .ok (.athrow, 1) := by decide +kernel
theorem dX8_advance_14 : decode cX8_advance 14 = .ok (.aload_n 0, 1) := by decide +kernel
theorem dX8_advance_15 : decode cX8_advance 15 = .ok (.getfield 28, 3) := by decide +kernel
theorem dX8_advance_18 : decode cX8_advance 18 = .ok (.iload_n 1, 1) := by decide +kernel
theorem dX8_advance_19 : decode cX8_advance 19 = .ok (.invokevirtual 217, 3) := by decide +kernel
theorem dX8_advance_22 : decode cX8_advance 22 = .ok (.ireturn, 1) := by decide +kernel
theorem dX8_time_0 : decode cX8_time 0 = .ok (.aload_n 0, 1) := by decide +kernel
theorem dX8_time_1 : decode cX8_time 1 = .ok (.getfield 28, 3) := by decide +kernel
theorem dX8_time_4 : decode cX8_time 4 = .ok (.getfield 220, 3) := by decide +kernel
theorem dX8_time_7 : decode cX8_time 7 = .ok (.lreturn, 1) := by decide +kernel
theorem dX8_nextExpiry_0 : decode cX8_nextExpiry 0 = .ok (.aload_n 0, 1) := by decide +kernel
theorem dX8_nextExpiry_1 : decode cX8_nextExpiry 1 = .ok (.getfield 28, 3) := by decide +kernel
theorem dX8_nextExpiry_4 : decode cX8_nextExpiry 4 = .ok (.invokevirtual 223, 3) := by decide +kernel
theorem dX8_nextExpiry_7 : decode cX8_nextExpiry 7 = .ok (.lreturn, 1) := by decide +kernel
theorem dX8_setLimit_0 : decode cX8_setLimit 0 = .ok (.iload_n 1, 1) := by decide +kernel
theorem dX8_setLimit_1 : decode cX8_setLimit 1 = .ok (.ifCond .lt 8, 3) := by decide +kernel
theorem dX8_setLimit_4 : decode cX8_setLimit 4 = .ok (.iload_n 1, 1) := by decide +kernel
theorem dX8_setLimit_5 : decode cX8_setLimit 5 = .ok (.iconst 2, 1) := by decide +kernel
theorem dX8_setLimit_6 : decode cX8_setLimit 6 = .ok (.if_icmp .lt 13, 3) := by decide +kernel
theorem dX8_setLimit_9 : decode cX8_setLimit 9 = .ok (.new 132, 3) := by decide +kernel
theorem dX8_setLimit_12 : decode cX8_setLimit 12 = .ok (.dup, 1) := by decide +kernel
theorem dX8_setLimit_13 : decode cX8_setLimit 13 = .ok (.ldc 227, 2) := by decide +kernel
theorem dX8_setLimit_15 : decode cX8_setLimit 15 = .ok (.invokespecial 136, 3) := by decide +kernel
theorem dX8_setLimit_18 : decode cX8_setLimit 18 = .ok (.athrow, 1) := by decide +kernel
theorem dX8_setLimit_19 : decode cX8_setLimit 19 = .ok (.iload_n 2, 1) := by decide +kernel
theorem dX8_setLimit_20 : decode cX8_setLimit 20 = .ok (.iconst 1, 1) := by decide +kernel
theorem dX8_setLimit_21 : decode cX8_setLimit 21 = .ok (.if_icmp .lt 9, 3) := by decide +kernel
theorem dX8_setLimit_24 : decode cX8_setLimit 24 = .ok (.iload_n 2, 1) := by decide +kernel
theorem dX8_setLimit_25 : decode cX8_setLimit 25 = .ok (.bipush 40, 2) := by decide +kernel
theorem dX8_setLimit_27 : decode cX8_setLimit 27 = .ok (.if_icmp .le 13, 3) := by decide +kernel
theorem dX8_setLimit_30 : decode cX8_setLimit 30 = .ok (.new 36, 3) := by decide +kernel
theorem dX8_setLimit_33 : decode cX8_setLimit 33 = .ok (.dup, 1) := by decide +kernel
theorem dX8_setLimit_34 : decode cX8_setLimit 34 = .ok (.ldc 229, 2) := by decide +kernel
theorem dX8_setLimit_36 : decode cX8_setLimit 36 = .ok (.invokespecial 40, 3) := by decide +kernel
theorem dX8_setLimit_39 : decode cX8_setLimit 39 = .ok (.athrow, 1) := by decide +kernel
theorem dX8_setLimit_40 : decode cX8_setLimit 40 = .ok (.aload_n 0, 1) := by decide +kernel
theorem dX8_setLimit_41 : decode cX8_setLimit 41 = .ok (.getfield 28, 3) := by decide +kernel
theorem dX8_setLimit_44 : decode cX8_setLimit 44 = .ok (.getfield 231, 3) := by decide +kernel
theorem dX8_setLimit_47 : decode cX8_setLimit 47 = .ok (.iload_n 1, 1) := by decide +kernel
theorem dX8_setLimit_48 : decode cX8_setLimit 48 = .ok (.iaload, 1) := by decide +kernel
theorem dX8_setLimit_49 : decode cX8_setLimit 49 = .ok (.istore_n 3, 1) := by decide +kernel
theorem dX8_setLimit_50 : decode cX8_setLimit 50 = .ok (.aload_n 0, 1) := by decide +kernel
theorem dX8_setLimit_51 : decode cX8_setLimit 51 = .ok (.getfield 28, 3) := by decide +kernel
theorem dX8_setLimit_54 : decode cX8_setLimit 54 = .ok (.getfield 231, 3) := by decide +kernel
theorem dX8_setLimit_57 : decode cX8_setLimit 57 = .ok (.iload_n 1, 1) := by decide +kernel
theorem dX8_setLimit_58 : decode cX8_setLimit 58 = .ok (.iload_n 2, 1) := by decide +kernel
theorem dX8_setLimit_59 : decode cX8_setLimit 59 = .ok (.iastore, 1) := by decide +kernel
theorem dX8_setLimit_60 : decode cX8_setLimit 60 = .ok (.iload_n 3, 1) := by decide +kernel
theorem dX8_setLimit_61 : decode cX8_setLimit 61 = .ok (.ireturn, 1) := by decide +kernel
theorem dX8_setPolicy_0 : decode cX8_setPolicy 0 = .ok (.iload_n 1, 1) := by decide +kernel
theorem dX8_setPolicy_1 : decode cX8_setPolicy 1 = .ok (.ifCond .lt 8, 3) := by decide +kernel
theorem dX8_setPolicy_4 : decode cX8_setPolicy 4 = .ok (.iload_n 1, 1) := by decide +kernel
theorem dX8_setPolicy_5 : decode cX8_setPolicy 5 = .ok (.iconst 4, 1) := by decide +kernel
theorem dX8_setPolicy_6 : decode cX8_setPolicy 6 = .ok (.if_icmp .lt 13, 3) := by decide +kernel
theorem dX8_setPolicy_9 : decode cX8_setPolicy 9 = .ok (.new 36, 3) := by decide +kernel
theorem dX8_setPolicy_12 : decode cX8_setPolicy 12 = .ok (.dup, 1) := by decide +kernel
theorem dX8_setPolicy_13 : decode cX8_setPolicy 13 = .ok (.ldc 235, 2) := by decide +kernel
theorem dX8_setPolicy_15 : decode cX8_setPolicy 15 = .ok (.invokespecial 40, 3) := by decide +kernel
theorem dX8_setPolicy_18 : decode cX8_setPolicy 18 = .ok (.athrow, 1) := by decide +kernel
theorem dX8_setPolicy_19 : decode cX8_setPolicy 19 = .ok (.aload_n 0, 1) := by decide +kernel
theorem dX8_setPolicy_20 : decode cX8_setPolicy 20 = .ok (.getfield 28, 3) := by decide +kernel
theorem dX8_setPolicy_23 : decode cX8_setPolicy 23 = .ok (.getfield 237, 3) := by decide +kernel
theorem dX8_setPolicy_26 : decode cX8_setPolicy 26 = .ok (.istore_n 2, 1) := by decide +kernel
theorem dX8_setPolicy_27 : decode cX8_setPolicy 27 = .ok (.aload_n 0, 1) := by decide +kernel
theorem dX8_setPolicy_28 : decode cX8_setPolicy 28 = .ok (.getfield 28, 3) := by decide +kernel
theorem dX8_setPolicy_31 : decode cX8_setPolicy 31 = .ok (.iload_n 1, 1) := by decide +kernel
theorem dX8_setPolicy_32 : decode cX8_setPolicy 32 = .ok (.putfield 237, 3) := by decide +kernel
theorem dX8_setPolicy_35 : decode cX8_setPolicy 35 = .ok (.iload_n 2, 1) := by decide +kernel
theorem dX8_setPolicy_36 : decode cX8_setPolicy 36 = .ok (.ireturn, 1) := by decide +kernel
theorem dX8_victim_0 : decode cX8_victim 0 = .ok (.aload_n 0, 1) := by decide +kernel
theorem dX8_victim_1 : decode cX8_victim 1 = .ok (.getfield 28, 3) := by decide +kernel
theorem dX8_victim_4 : decode cX8_victim 4 = .ok (.iconst (-1), 1) := by decide +kernel
theorem dX8_victim_5 : decode cX8_victim 5 = .ok (.invokevirtual 240, 3) := by decide +kernel
theorem dX8_victim_8 : decode cX8_victim 8 = .ok (.ireturn, 1) := by decide +kernel
theorem dX8_count_0 : decode cX8_count 0 = .ok (.iload_n 1, 1) := by decide +kernel
theorem dX8_count_1 : decode cX8_count 1 = .ok (.ifCond .lt 9, 3) := by decide +kernel
theorem dX8_count_4 : decode cX8_count 4 = .ok (.iload_n 1, 1) := by decide +kernel
theorem dX8_count_5 : decode cX8_count 5 = .ok (.bipush 7, 2) := by decide +kernel
theorem dX8_count_7 : decode cX8_count 7 = .ok (.if_icmp .lt 13, 3) := by decide +kernel
theorem dX8_count_10 : decode cX8_count 10 = .ok (.new 132, 3) := by decide +kernel
theorem dX8_count_13 : decode cX8_count 13 = .ok (.dup, 1) := by decide +kernel
theorem dX8_count_14 : decode cX8_count 14 = .ok (.ldc 243, 2) := by decide +kernel
theorem dX8_count_16 : decode cX8_count 16 = .ok (.invokespecial 136, 3) := by decide +kernel
theorem dX8_count_19 : decode cX8_count 19 = .ok (.athrow, 1) := by decide +kernel
theorem dX8_count_20 : decode cX8_count 20 = .ok (.aload_n 0, 1) := by decide +kernel
theorem dX8_count_21 : decode cX8_count 21 = .ok (.getfield 28, 3) := by decide +kernel
theorem dX8_count_24 : decode cX8_count 24 = .ok (.getfield 245, 3) := by decide +kernel
theorem dX8_count_27 : decode cX8_count 27 = .ok (.iload_n 1, 1) := by decide +kernel
theorem dX8_count_28 : decode cX8_count 28 = .ok (.iaload, 1) := by decide +kernel
theorem dX8_count_29 : decode cX8_count 29 = .ok (.ireturn, 1) := by decide +kernel
theorem dX8_save_0 : decode cX8_save 0 = .ok (.aload_n 0, 1) := by decide +kernel
theorem dX8_save_1 : decode cX8_save 1 = .ok (.iload_n 1, 1) := by decide +kernel
theorem dX8_save_2 : decode cX8_save 2 = .ok (.invokevirtual 248, 3) := by decide +kernel
theorem dX8_save_5 : decode cX8_save 5 = .ok (.aload_n 0, 1) := by decide +kernel
theorem dX8_save_6 : decode cX8_save 6 = .ok (.getfield 32, 3) := by decide +kernel
theorem dX8_save_9 : decode cX8_save 9 = .ok (.iload_n 1, 1) := by decide +kernel
theorem dX8_save_10 : decode cX8_save 10 = .ok (.aaload, 1) := by decide +kernel
theorem dX8_save_11 : decode cX8_save 11 = .ok (.astore_n 2, 1) := by decide +kernel
theorem dX8_save_12 : decode cX8_save 12 = .ok (.aload_n 2, 1) := by decide +kernel
theorem dX8_save_13 : decode cX8_save 13 = .ok (.ifnonnull 18, 3) := by decide +kernel
theorem dX8_save_16 : decode cX8_save 16 = .ok (.new 25, 3) := by decide +kernel
theorem dX8_save_19 : decode cX8_save 19 = .ok (.dup, 1) := by decide +kernel
theorem dX8_save_20 : decode cX8_save 20 = .ok (.invokespecial 27, 3) := by decide +kernel
theorem dX8_save_23 : decode cX8_save 23 = .ok (.astore_n 2, 1) := by decide +kernel
theorem dX8_save_24 : decode cX8_save 24 = .ok (.aload_n 0, 1) := by decide +kernel
theorem dX8_save_25 : decode cX8_save 25 = .ok (.getfield 32, 3) := by decide +kernel
theorem dX8_save_28 : decode cX8_save 28 = .ok (.iload_n 1, 1) := by decide +kernel
theorem dX8_save_29 : decode cX8_save 29 = .ok (.aload_n 2, 1) := by decide +kernel
theorem dX8_save_30 : decode cX8_save 30 = .ok (.aastore, 1) := by decide +kernel
theorem dX8_save_31 : decode cX8_save 31 = .ok (.aload_n 2, 1) := by decide +kernel
theorem dX8_save_32 : decode cX8_save 32 = .ok (.aload_n 0, 1) := by decide +kernel
theorem dX8_save_33 : decode cX8_save 33 = .ok (.getfield 28, 3) := by decide +kernel
theorem dX8_save_36 : decode cX8_save 36 = .ok (.invokevirtual 251, 3) := by decide +kernel
theorem dX8_save_39 : decode cX8_save 39 = .ok (.aload_n 2, 1) := by decide +kernel
theorem dX8_save_40 : decode cX8_save 40 = .ok (.getfield 155, 3) := by decide +kernel
theorem dX8_save_43 : decode cX8_save 43 = .ok (.ireturn, 1) := by decide +kernel
theorem dX8_restore_0 : decode cX8_restore 0 = .ok (.aload_n 0, 1) := by decide +kernel
theorem dX8_restore_1 : decode cX8_restore 1 = .ok (.iload_n 1, 1) := by decide +kernel
theorem dX8_restore_2 : decode cX8_restore 2 = .ok (.invokevirtual 248, 3) := by decide +kernel
theorem dX8_restore_5 : decode cX8_restore 5 = .ok (.aload_n 0, 1) := by decide +kernel
theorem dX8_restore_6 : decode cX8_restore 6 = .ok (.getfield 32, 3) := by decide +kernel
theorem dX8_restore_9 : decode cX8_restore 9 = .ok (.iload_n 1, 1) := by decide +kernel
theorem dX8_restore_10 : decode cX8_restore 10 = .ok (.aaload, 1) := by decide +kernel
theorem dX8_restore_11 : decode cX8_restore 11 = .ok (.astore_n 2, 1) := by decide +kernel
theorem dX8_restore_12 : decode cX8_restore 12 = .ok (.aload_n 2, 1) := by decide +kernel
theorem dX8_restore_13 : decode cX8_restore 13 = .ok (.ifnonnull 13, 3) := by decide +kernel
theorem dX8_restore_16 : decode cX8_restore 16 = .ok (.new 47, 3) := by decide +kernel
theorem dX8_restore_19 : decode cX8_restore 19 = .ok (.dup, 1) := by decide +kernel
theorem dX8_restore_20 : decode cX8_restore 20 = .ok (.ldc 255, 2) := by decide +kernel
theorem dX8_restore_22 : decode cX8_restore 22 = .ok (.invokespecial 51, 3) := by decide +kernel
theorem dX8_restore_25 : decode cX8_restore 25 = .ok (.athrow, 1) := by decide +kernel
theorem dX8_restore_26 : decode cX8_restore 26 = .ok (.aload_n 0, 1) := by decide +kernel
theorem dX8_restore_27 : decode cX8_restore 27 = .ok (.getfield 28, 3) := by decide +kernel
theorem dX8_restore_30 : decode cX8_restore 30 = .ok (.aload_n 2, 1) := by decide +kernel
theorem dX8_restore_31 : decode cX8_restore 31 = .ok (.invokevirtual 251, 3) := by decide +kernel
theorem dX8_restore_34 : decode cX8_restore 34 = .ok (.aload_n 0, 1) := by decide +kernel
theorem dX8_restore_35 : decode cX8_restore 35 = .ok (.getfield 28, 3) := by decide +kernel
theorem dX8_restore_38 : decode cX8_restore 38 = .ok (.getfield 155, 3) := by decide +kernel
theorem dX8_restore_41 : decode cX8_restore 41 = .ok (.ireturn, 1) := by decide +kernel
theorem dX8_fingerprint_0 : decode cX8_fingerprint 0 = .ok (.aload_n 0, 1) := by decide +kernel
theorem dX8_fingerprint_1 : decode cX8_fingerprint 1 = .ok (.getfield 28, 3) := by decide +kernel
theorem dX8_fingerprint_4 : decode cX8_fingerprint 4 = .ok (.invokevirtual 257, 3) := by decide +kernel
theorem dX8_fingerprint_7 : decode cX8_fingerprint 7 = .ok (.lreturn, 1) := by decide +kernel
theorem dX8_needRequest_0 : decode cX8_needRequest 0 = .ok (.aload_n 0, 1) := by decide +kernel
theorem dX8_needRequest_1 : decode cX8_needRequest 1 = .ok (.getfield 28, 3) := by decide +kernel
theorem dX8_needRequest_4 : decode cX8_needRequest 4 = .ok (.getfield 66, 3) := by decide +kernel
theorem dX8_needRequest_7 : decode cX8_needRequest 7 = .ok (.getfield 260, 3) := by decide +kernel
theorem dX8_needRequest_10 : decode cX8_needRequest 10 = .ok (.ifCond .ne 14, 3) := by decide +kernel
theorem dX8_needRequest_13 : decode cX8_needRequest 13 = .ok (.new 47, 3) := by decide +kernel
theorem dX8_needRequest_16 : decode cX8_needRequest 16 = .ok (.dup, 1) := by decide +kernel
theorem dX8_needRequest_17 : decode cX8_needRequest 17 = .ok (.ldc_w 262, 3) := by decide +kernel
theorem dX8_needRequest_20 : decode cX8_needRequest 20 = .ok (.invokespecial 51, 3) := by decide +kernel
theorem dX8_needRequest_23 : decode cX8_needRequest 23 = .ok (.athrow, 1) := by decide +kernel
theorem dX8_needRequest_24 : decode cX8_needRequest 24 = .ok (.return_, 1) := by decide +kernel
theorem dX8_needIndex_0 : decode cX8_needIndex 0 = .ok (.iload_n 1, 1) := by decide +kernel
theorem dX8_needIndex_1 : decode cX8_needIndex 1 = .ok (.ifCond .ge 14, 3) := by decide +kernel
theorem dX8_needIndex_4 : decode cX8_needIndex 4 = .ok (.new 132, 3) := by decide +kernel
theorem dX8_needIndex_7 : decode cX8_needIndex 7 = .ok (.dup, 1) := by decide +kernel
theorem dX8_needIndex_8 : decode cX8_needIndex 8 = .ok (.ldc_w 264, 3) := by decide +kernel
theorem dX8_needIndex_11 : decode cX8_needIndex 11 = .ok (.invokespecial 136, 3) := by decide +kernel
theorem dX8_needIndex_14 : decode cX8_needIndex 14 = .ok (.athrow, 1) := by decide +kernel
theorem dX8_needIndex_15 : decode cX8_needIndex 15 = .ok (.return_, 1) := by decide +kernel
theorem dX8_needCookie_0 : decode cX8_needCookie 0 = .ok (.iload_n 1, 1) := by decide +kernel
theorem dX8_needCookie_1 : decode cX8_needCookie 1 = .ok (.ifCond .lt 14, 3) := by decide +kernel
theorem dX8_needCookie_4 : decode cX8_needCookie 4 = .ok (.iload_n 1, 1) := by decide +kernel
theorem dX8_needCookie_5 : decode cX8_needCookie 5 = .ok (.aload_n 0, 1) := by decide +kernel
theorem dX8_needCookie_6 : decode cX8_needCookie 6 = .ok (.getfield 28, 3) := by decide +kernel
theorem dX8_needCookie_9 : decode cX8_needCookie 9 = .ok (.getfield 155, 3) := by decide +kernel
theorem dX8_needCookie_12 : decode cX8_needCookie 12 = .ok (.if_icmp .lt 14, 3) := by decide +kernel
theorem dX8_needCookie_15 : decode cX8_needCookie 15 = .ok (.new 132, 3) := by decide +kernel
theorem dX8_needCookie_18 : decode cX8_needCookie 18 = .ok (.dup, 1) := by decide +kernel
theorem dX8_needCookie_19 : decode cX8_needCookie 19 = .ok (.ldc_w 266, 3) := by decide +kernel
theorem dX8_needCookie_22 : decode cX8_needCookie 22 = .ok (.invokespecial 136, 3) := by decide +kernel
theorem dX8_needCookie_25 : decode cX8_needCookie 25 = .ok (.athrow, 1) := by decide +kernel
theorem dX8_needCookie_26 : decode cX8_needCookie 26 = .ok (.return_, 1) := by decide +kernel
theorem dX8_needSlot_0 : decode cX8_needSlot 0 = .ok (.iload_n 1, 1) := by decide +kernel
theorem dX8_needSlot_1 : decode cX8_needSlot 1 = .ok (.ifCond .lt 8, 3) := by decide +kernel
theorem dX8_needSlot_4 : decode cX8_needSlot 4 = .ok (.iload_n 1, 1) := by decide +kernel
theorem dX8_needSlot_5 : decode cX8_needSlot 5 = .ok (.iconst 2, 1) := by decide +kernel
theorem dX8_needSlot_6 : decode cX8_needSlot 6 = .ok (.if_icmp .lt 14, 3) := by decide +kernel
theorem dX8_needSlot_9 : decode cX8_needSlot 9 = .ok (.new 132, 3) := by decide +kernel
theorem dX8_needSlot_12 : decode cX8_needSlot 12 = .ok (.dup, 1) := by decide +kernel
theorem dX8_needSlot_13 : decode cX8_needSlot 13 = .ok (.ldc_w 268, 3) := by decide +kernel
theorem dX8_needSlot_16 : decode cX8_needSlot 16 = .ok (.invokespecial 136, 3) := by decide +kernel
theorem dX8_needSlot_19 : decode cX8_needSlot 19 = .ok (.athrow, 1) := by decide +kernel
theorem dX8_needSlot_20 : decode cX8_needSlot 20 = .ok (.return_, 1) := by decide +kernel
theorem dX8_listed_0 : decode cX8_listed 0 = .ok (.aload_n 0, 1) := by decide +kernel
theorem dX8_listed_1 : decode cX8_listed 1 = .ok (.iload_n 1, 1) := by decide +kernel
theorem dX8_listed_2 : decode cX8_listed 2 = .ok (.invokevirtual 202, 3) := by decide +kernel
theorem dX8_listed_5 : decode cX8_listed 5 = .ok (.aload_n 0, 1) := by decide +kernel
theorem dX8_listed_6 : decode cX8_listed 6 = .ok (.getfield 28, 3) := by decide +kernel
theorem dX8_listed_9 : decode cX8_listed 9 = .ok (.getfield 270, 3) := by decide +kernel
theorem dX8_listed_12 : decode cX8_listed 12 = .ok (.iload_n 1, 1) := by decide +kernel
theorem dX8_listed_13 : decode cX8_listed 13 = .ok (.aaload, 1) := by decide +kernel
theorem dX8_listed_14 : decode cX8_listed 14 = .ok (.areturn, 1) := by decide +kernel
theorem dJ6_compare_7cf53_0 : decode cJ6_compare_7cf53 0 = .ok (.iload_n 0, 1) := by decide +kernel
theorem dJ6_compare_7cf53_1 : decode cJ6_compare_7cf53 1 = .ok (.iload_n 1, 1) := by decide +kernel
theorem dJ6_compare_7cf53_2 : decode cJ6_compare_7cf53 2 = .ok (.if_icmp .ge 7, 3) := by decide +kernel
theorem dJ6_compare_7cf53_5 : decode cJ6_compare_7cf53 5 = .ok (.iconst (-1), 1) := by decide +kernel
theorem dJ6_compare_7cf53_6 : decode cJ6_compare_7cf53 6 = .ok (.goto 13, 3) := by decide +kernel
theorem dJ6_compare_7cf53_9 : decode cJ6_compare_7cf53 9 = .ok (.iload_n 0, 1) := by decide +kernel
theorem dJ6_compare_7cf53_10 : decode cJ6_compare_7cf53 10 = .ok (.iload_n 1, 1) := by decide +kernel
theorem dJ6_compare_7cf53_11 : decode cJ6_compare_7cf53 11 = .ok (.if_icmp .ne 7, 3) := by decide +kernel
theorem dJ6_compare_7cf53_14 : decode cJ6_compare_7cf53 14 = .ok (.iconst 0, 1) := by decide +kernel
theorem dJ6_compare_7cf53_15 : decode cJ6_compare_7cf53 15 = .ok (.goto 4, 3) := by decide +kernel
theorem dJ6_compare_7cf53_18 : decode cJ6_compare_7cf53 18 = .ok (.iconst 1, 1) := by decide +kernel
theorem dJ6_compare_7cf53_19 : decode cJ6_compare_7cf53 19 = .ok (.ireturn, 1) := by decide +kernel
theorem dJ13_compare_74951_0 : decode cJ13_compare_74951 0 = .ok (.lload_n 0, 1) := by decide +kernel
theorem dJ13_compare_74951_1 : decode cJ13_compare_74951 1 = .ok (.lload_n 2, 1) := by decide +kernel
theorem dJ13_compare_74951_2 : decode cJ13_compare_74951 2 = .ok (.lcmp, 1) := by decide +kernel
theorem dJ13_compare_74951_3 : decode cJ13_compare_74951 3 = .ok (.ifCond .ge 7, 3) := by decide +kernel
theorem dJ13_compare_74951_6 : decode cJ13_compare_74951 6 = .ok (.iconst (-1), 1) := by decide +kernel
theorem dJ13_compare_74951_7 : decode cJ13_compare_74951 7 = .ok (.goto 14, 3) := by decide +kernel
theorem dJ13_compare_74951_10 : decode cJ13_compare_74951 10 = .ok (.lload_n 0, 1) := by decide +kernel
theorem dJ13_compare_74951_11 : decode cJ13_compare_74951 11 = .ok (.lload_n 2, 1) := by decide +kernel
theorem dJ13_compare_74951_12 : decode cJ13_compare_74951 12 = .ok (.lcmp, 1) := by decide +kernel
theorem dJ13_compare_74951_13 : decode cJ13_compare_74951 13 = .ok (.ifCond .ne 7, 3) := by decide +kernel
theorem dJ13_compare_74951_16 : decode cJ13_compare_74951 16 = .ok (.iconst 0, 1) := by decide +kernel
theorem dJ13_compare_74951_17 : decode cJ13_compare_74951 17 = .ok (.goto 4, 3) := by decide +kernel
theorem dJ13_compare_74951_20 : decode cJ13_compare_74951 20 = .ok (.iconst 1, 1) := by decide +kernel
theorem dJ13_compare_74951_21 : decode cJ13_compare_74951 21 = .ok (.ireturn, 1) := by decide +kernel
theorem dJ9_max_7cf53_0 : decode cJ9_max_7cf53 0 = .ok (.iload_n 0, 1) := by decide +kernel
theorem dJ9_max_7cf53_1 : decode cJ9_max_7cf53 1 = .ok (.iload_n 1, 1) := by decide +kernel
theorem dJ9_max_7cf53_2 : decode cJ9_max_7cf53 2 = .ok (.if_icmp .lt 7, 3) := by decide +kernel
theorem dJ9_max_7cf53_5 : decode cJ9_max_7cf53 5 = .ok (.iload_n 0, 1) := by decide +kernel
theorem dJ9_max_7cf53_6 : decode cJ9_max_7cf53 6 = .ok (.goto 4, 3) := by decide +kernel
theorem dJ9_max_7cf53_9 : decode cJ9_max_7cf53 9 = .ok (.iload_n 1, 1) := by decide +kernel
theorem dJ9_max_7cf53_10 : decode cJ9_max_7cf53 10 = .ok (.ireturn, 1) := by decide +kernel
theorem dJ9_min_7cf53_0 : decode cJ9_min_7cf53 0 = .ok (.iload_n 0, 1) := by decide +kernel
theorem dJ9_min_7cf53_1 : decode cJ9_min_7cf53 1 = .ok (.iload_n 1, 1) := by decide +kernel
theorem dJ9_min_7cf53_2 : decode cJ9_min_7cf53 2 = .ok (.if_icmp .gt 7, 3) := by decide +kernel
theorem dJ9_min_7cf53_5 : decode cJ9_min_7cf53 5 = .ok (.iload_n 0, 1) := by decide +kernel
theorem dJ9_min_7cf53_6 : decode cJ9_min_7cf53 6 = .ok (.goto 4, 3) := by decide +kernel
theorem dJ9_min_7cf53_9 : decode cJ9_min_7cf53 9 = .ok (.iload_n 1, 1) := by decide +kernel
theorem dJ9_min_7cf53_10 : decode cJ9_min_7cf53 10 = .ok (.ireturn, 1) := by decide +kernel
theorem dJ9_min_f86c9_0 : decode cJ9_min_f86c9 0 = .ok (.lload_n 0, 1) := by decide +kernel
theorem dJ9_min_f86c9_1 : decode cJ9_min_f86c9 1 = .ok (.lload_n 2, 1) := by decide +kernel
theorem dJ9_min_f86c9_2 : decode cJ9_min_f86c9 2 = .ok (.lcmp, 1) := by decide +kernel
theorem dJ9_min_f86c9_3 : decode cJ9_min_f86c9 3 = .ok (.ifCond .gt 7, 3) := by decide +kernel
theorem dJ9_min_f86c9_6 : decode cJ9_min_f86c9 6 = .ok (.lload_n 0, 1) := by decide +kernel
theorem dJ9_min_f86c9_7 : decode cJ9_min_f86c9 7 = .ok (.goto 4, 3) := by decide +kernel
theorem dJ9_min_f86c9_10 : decode cJ9_min_f86c9 10 = .ok (.lload_n 2, 1) := by decide +kernel
theorem dJ9_min_f86c9_11 : decode cJ9_min_f86c9 11 = .ok (.lreturn, 1) := by decide +kernel
theorem dJ0_length_8abf5_0 : decode cJ0_length_8abf5 0 = .ok (.aload_n 0, 1) := by decide +kernel
theorem dJ0_length_8abf5_1 : decode cJ0_length_8abf5 1 = .ok (.getfield 9, 3) := by decide +kernel
theorem dJ0_length_8abf5_4 : decode cJ0_length_8abf5 4 = .ok (.arraylength, 1) := by decide +kernel
theorem dJ0_length_8abf5_5 : decode cJ0_length_8abf5 5 = .ok (.aload_n 0, 1) := by decide +kernel
theorem dJ0_length_8abf5_6 : decode cJ0_length_8abf5 6 = .ok (.invokevirtual 335, 3) := by decide +kernel
theorem dJ0_length_8abf5_9 : decode cJ0_length_8abf5 9 = .ok (.ishr, 1) := by decide +kernel
theorem dJ0_length_8abf5_10 : decode cJ0_length_8abf5 10 = .ok (.ireturn, 1) := by decide +kernel
theorem dJ0_charAt_5068e_0 : decode cJ0_charAt_5068e 0 = .ok (.aload_n 0, 1) := by decide +kernel
theorem dJ0_charAt_5068e_1 : decode cJ0_charAt_5068e 1 = .ok (.invokevirtual 492, 3) := by decide +kernel
theorem dJ0_charAt_5068e_4 : decode cJ0_charAt_5068e 4 = .ok (.ifCond .eq 12, 3) := by decide +kernel
theorem dJ0_charAt_5068e_7 : decode cJ0_charAt_5068e 7 = .ok (.aload_n 0, 1) := by decide +kernel
theorem dJ0_charAt_5068e_8 : decode cJ0_charAt_5068e 8 = .ok (.getfield 9, 3) := by decide +kernel
theorem dJ0_charAt_5068e_11 : decode cJ0_charAt_5068e 11 = .ok (.iload_n 1, 1) := by decide +kernel
theorem dJ0_charAt_5068e_12 : decode cJ0_charAt_5068e 12 = .ok (.invokestatic 495, 3) := by decide +kernel
theorem dJ0_charAt_5068e_15 : decode cJ0_charAt_5068e 15 = .ok (.ireturn, 1) := by decide +kernel
theorem dJ0_charAt_5068e_16 : decode cJ0_charAt_5068e 16 = .ok (.aload_n 0, 1) := by decide +kernel
theorem dJ0_charAt_5068e_17 : decode cJ0_charAt_5068e 17 = .ok (.getfield 9, 3) := by decide +kernel
theorem dJ0_charAt_5068e_20 : decode cJ0_charAt_5068e 20 = .ok (.iload_n 1, 1) := by decide +kernel
theorem dJ0_charAt_5068e_21 : decode cJ0_charAt_5068e 21 = .ok (.invokestatic 498, 3) := by decide +kernel
theorem dJ0_charAt_5068e_24 : decode cJ0_charAt_5068e 24 = .ok (.ireturn, 1) := by decide +kernel
theorem dJ0_coder_7d493_0 : decode cJ0_coder_7d493 0 = .ok (.getstatic 38, 3) := by decide +kernel
theorem dJ0_coder_7d493_3 : decode cJ0_coder_7d493 3 = .ok (.ifCond .eq 10, 3) := by decide +kernel
theorem dJ0_coder_7d493_6 : decode cJ0_coder_7d493 6 = .ok (.aload_n 0, 1) := by decide +kernel
theorem dJ0_coder_7d493_7 : decode cJ0_coder_7d493 7 = .ok (.getfield 15, 3) := by decide +kernel
theorem dJ0_coder_7d493_10 : decode cJ0_coder_7d493 10 = .ok (.goto 4, 3) := by decide +kernel
theorem dJ0_coder_7d493_13 : decode cJ0_coder_7d493 13 = .ok (.iconst 1, 1) := by decide +kernel
theorem dJ0_coder_7d493_14 : decode cJ0_coder_7d493 14 = .ok (.ireturn, 1) := by decide +kernel
theorem dJ0_isLatin1_aae02_0 : decode cJ0_isLatin1_aae02 0 = .ok (.getstatic 38, 3) := by decide +kernel
theorem dJ0_isLatin1_aae02_3 : decode cJ0_isLatin1_aae02 3 = .ok (.ifCond .eq 14, 3) := by decide +kernel
theorem dJ0_isLatin1_aae02_6 : decode cJ0_isLatin1_aae02 6 = .ok (.aload_n 0, 1) := by decide +kernel
theorem dJ0_isLatin1_aae02_7 : decode cJ0_isLatin1_aae02 7 = .ok (.getfield 15, 3) := by decide +kernel
theorem dJ0_isLatin1_aae02_10 : decode cJ0_isLatin1_aae02 10 = .ok (.ifCond .ne 7, 3) := by decide +kernel
theorem dJ0_isLatin1_aae02_13 : decode cJ0_isLatin1_aae02 13 = .ok (.iconst 1, 1) := by decide +kernel
theorem dJ0_isLatin1_aae02_14 : decode cJ0_isLatin1_aae02 14 = .ok (.goto 4, 3) := by decide +kernel
theorem dJ0_isLatin1_aae02_17 : decode cJ0_isLatin1_aae02 17 = .ok (.iconst 0, 1) := by decide +kernel
theorem dJ0_isLatin1_aae02_18 : decode cJ0_isLatin1_aae02 18 = .ok (.ireturn, 1) := by decide +kernel
theorem dJ0_checkIndex_df160_0 : decode cJ0_checkIndex_df160 0 = .ok (.iload_n 0, 1) := by decide +kernel
theorem dJ0_checkIndex_df160_1 : decode cJ0_checkIndex_df160 1 = .ok (.iload_n 1, 1) := by decide +kernel
theorem dJ0_checkIndex_df160_2 : decode cJ0_checkIndex_df160 2 = .ok (.getstatic 1053, 3) := by decide +kernel
theorem dJ0_checkIndex_df160_5 : decode cJ0_checkIndex_df160 5 = .ok (.invokestatic 1059, 3) := by decide +kernel
theorem dJ0_checkIndex_df160_8 : decode cJ0_checkIndex_df160 8 = .ok (.pop, 1) := by decide +kernel
theorem dJ0_checkIndex_df160_9 : decode cJ0_checkIndex_df160 9 = .ok (.return_, 1) := by decide +kernel
theorem dJ1_charAt_3b067_0 : decode cJ1_charAt_3b067 0 = .ok (.iload_n 1, 1) := by decide +kernel
theorem dJ1_charAt_3b067_1 : decode cJ1_charAt_3b067 1 = .ok (.aload_n 0, 1) := by decide +kernel
theorem dJ1_charAt_3b067_2 : decode cJ1_charAt_3b067 2 = .ok (.arraylength, 1) := by decide +kernel
theorem dJ1_charAt_3b067_3 : decode cJ1_charAt_3b067 3 = .ok (.invokestatic 9, 3) := by decide +kernel
theorem dJ1_charAt_3b067_6 : decode cJ1_charAt_3b067 6 = .ok (.aload_n 0, 1) := by decide +kernel
theorem dJ1_charAt_3b067_7 : decode cJ1_charAt_3b067 7 = .ok (.iload_n 1, 1) := by decide +kernel
theorem dJ1_charAt_3b067_8 : decode cJ1_charAt_3b067 8 = .ok (.baload, 1) := by decide +kernel
theorem dJ1_charAt_3b067_9 : decode cJ1_charAt_3b067 9 = .ok (.sipush 255, 3) := by decide +kernel
theorem dJ1_charAt_3b067_12 : decode cJ1_charAt_3b067 12 = .ok (.iand, 1) := by decide +kernel
theorem dJ1_charAt_3b067_13 : decode cJ1_charAt_3b067 13 = .ok (.i2c, 1) := by decide +kernel
theorem dJ1_charAt_3b067_14 : decode cJ1_charAt_3b067 14 = .ok (.ireturn, 1) := by decide +kernel
theorem dJ2_getChar_3b067_0 : decode cJ2_getChar_3b067 0 = .ok (.getstatic 44, 3) := by decide +kernel
theorem dJ2_getChar_3b067_3 : decode cJ2_getChar_3b067 3 = .ok (.ifCond .ne 25, 3) := by decide +kernel
theorem dJ2_getChar_3b067_6 : decode cJ2_getChar_3b067 6 = .ok (.iload_n 1, 1) := by decide +kernel
theorem dJ2_getChar_3b067_7 : decode cJ2_getChar_3b067 7 = .ok (.ifCond .lt 11, 3) := by decide +kernel
theorem dJ2_getChar_3b067_10 : decode cJ2_getChar_3b067 10 = .ok (.iload_n 1, 1) := by decide +kernel
theorem dJ2_getChar_3b067_11 : decode cJ2_getChar_3b067 11 = .ok (.aload_n 0, 1) := by decide +kernel
theorem dJ2_getChar_3b067_12 : decode cJ2_getChar_3b067 12 = .ok (.invokestatic 48, 3) := by decide +kernel
theorem dJ2_getChar_3b067_15 : decode cJ2_getChar_3b067 15 = .ok (.if_icmp .lt 13, 3) := by decide +kernel
theorem dJ2_getChar_3b067_18 : decode cJ2_getChar_3b067 18 = .ok (.new 52, 3) := by decide +kernel
theorem dJ2_getChar_3b067_21 : decode cJ2_getChar_3b067 21 = .ok (.dup, 1) := by decide +kernel
theorem dJ2_getChar_3b067_22 : decode cJ2_getChar_3b067 22 = .ok (.ldc 54, 2) := by decide +kernel
theorem dJ2_getChar_3b067_24 : decode cJ2_getChar_3b067 24 = .ok (.invokespecial 56, 3) := by decide +kernel
theorem dJ2_getChar_3b067_27 : decode cJ2_getChar_3b067 27 = .ok (.athrow, 1) := by decide +kernel
theorem dJ2_getChar_3b067_28 : decode cJ2_getChar_3b067 28 = .ok (.iload_n 1, 1) := by decide +kernel
theorem dJ2_getChar_3b067_29 : decode cJ2_getChar_3b067 29 = .ok (.iconst 1, 1) := by decide +kernel
theorem dJ2_getChar_3b067_30 : decode cJ2_getChar_3b067 30 = .ok (.ishl, 1) := by decide +kernel
theorem dJ2_getChar_3b067_31 : decode cJ2_getChar_3b067 31 = .ok (.istore_n 1, 1) := by decide +kernel
theorem dJ2_getChar_3b067_32 : decode cJ2_getChar_3b067 32 = .ok (.aload_n 0, 1) := by decide +kernel
theorem dJ2_getChar_3b067_33 : decode cJ2_getChar_3b067 33 = .ok (.iload_n 1, 1) := by decide +kernel
theorem dJ2_getChar_3b067_34 : decode cJ2_getChar_3b067 34 = .ok (.iinc 1 1, 3) := by decide +kernel
theorem dJ2_getChar_3b067_37 : decode cJ2_getChar_3b067 37 = .ok (.baload, 1) := by decide +kernel
theorem dJ2_getChar_3b067_38 : decode cJ2_getChar_3b067 38 = .ok (.sipush 255, 3) := by decide +kernel
theorem dJ2_getChar_3b067_41 : decode cJ2_getChar_3b067 41 = .ok (.iand, 1) := by decide +kernel
theorem dJ2_getChar_3b067_42 : decode cJ2_getChar_3b067 42 = .ok (.getstatic 59, 3) := by decide +kernel
theorem dJ2_getChar_3b067_45 : decode cJ2_getChar_3b067 45 = .ok (.ishl, 1) := by decide +kernel
theorem dJ2_getChar_3b067_46 : decode cJ2_getChar_3b067 46 = .ok (.aload_n 0, 1) := by decide +kernel
theorem dJ2_getChar_3b067_47 : decode cJ2_getChar_3b067 47 = .ok (.iload_n 1, 1) := by decide +kernel
theorem dJ2_getChar_3b067_48 : decode cJ2_getChar_3b067 48 = .ok (.baload, 1) := by decide +kernel
theorem dJ2_getChar_3b067_49 : decode cJ2_getChar_3b067 49 = .ok (.sipush 255, 3) := by decide +kernel
theorem dJ2_getChar_3b067_52 : decode cJ2_getChar_3b067 52 = .ok (.iand, 1) := by decide +kernel
theorem dJ2_getChar_3b067_53 : decode cJ2_getChar_3b067 53 = .ok (.getstatic 63, 3) := by decide +kernel
theorem dJ2_getChar_3b067_56 : decode cJ2_getChar_3b067 56 = .ok (.ishl, 1) := by decide +kernel
theorem dJ2_getChar_3b067_57 : decode cJ2_getChar_3b067 57 = .ok (.ior, 1) := by decide +kernel
theorem dJ2_getChar_3b067_58 : decode cJ2_getChar_3b067 58 = .ok (.i2c, 1) := by decide +kernel
theorem dJ2_getChar_3b067_59 : decode cJ2_getChar_3b067 59 = .ok (.ireturn, 1) := by decide +kernel
theorem dJ2_length_9d52b_0 : decode cJ2_length_9d52b 0 = .ok (.aload_n 0, 1) := by decide +kernel
theorem dJ2_length_9d52b_1 : decode cJ2_length_9d52b 1 = .ok (.arraylength, 1) := by decide +kernel
theorem dJ2_length_9d52b_2 : decode cJ2_length_9d52b 2 = .ok (.iconst 1, 1) := by decide +kernel
theorem dJ2_length_9d52b_3 : decode cJ2_length_9d52b 3 = .ok (.ishr, 1) := by decide +kernel
theorem dJ2_length_9d52b_4 : decode cJ2_length_9d52b 4 = .ok (.ireturn, 1) := by decide +kernel
theorem dJ2_charAt_3b067_0 : decode cJ2_charAt_3b067 0 = .ok (.iload_n 1, 1) := by decide +kernel
theorem dJ2_charAt_3b067_1 : decode cJ2_charAt_3b067 1 = .ok (.aload_n 0, 1) := by decide +kernel
theorem dJ2_charAt_3b067_2 : decode cJ2_charAt_3b067 2 = .ok (.invokestatic 67, 3) := by decide +kernel
theorem dJ2_charAt_3b067_5 : decode cJ2_charAt_3b067 5 = .ok (.aload_n 0, 1) := by decide +kernel
theorem dJ2_charAt_3b067_6 : decode cJ2_charAt_3b067 6 = .ok (.iload_n 1, 1) := by decide +kernel
theorem dJ2_charAt_3b067_7 : decode cJ2_charAt_3b067 7 = .ok (.invokestatic 71, 3) := by decide +kernel
theorem dJ2_charAt_3b067_10 : decode cJ2_charAt_3b067 10 = .ok (.ireturn, 1) := by decide +kernel
theorem dJ2_checkIndex_2214a_0 : decode cJ2_checkIndex_2214a 0 = .ok (.iload_n 0, 1) := by decide +kernel
theorem dJ2_checkIndex_2214a_1 : decode cJ2_checkIndex_2214a 1 = .ok (.aload_n 1, 1) := by decide +kernel
theorem dJ2_checkIndex_2214a_2 : decode cJ2_checkIndex_2214a 2 = .ok (.invokestatic 48, 3) := by decide +kernel
theorem dJ2_checkIndex_2214a_5 : decode cJ2_checkIndex_2214a 5 = .ok (.invokestatic 414, 3) := by decide +kernel
theorem dJ2_checkIndex_2214a_8 : decode cJ2_checkIndex_2214a 8 = .ok (.return_, 1) := by decide +kernel
theorem dJ3_checkIndex_8e157_0 : decode cJ3_checkIndex_8e157 0 = .ok (.iload_n 0, 1) := by decide +kernel
theorem dJ3_checkIndex_8e157_1 : decode cJ3_checkIndex_8e157 1 = .ok (.ifCond .lt 8, 3) := by decide +kernel
theorem dJ3_checkIndex_8e157_4 : decode cJ3_checkIndex_8e157 4 = .ok (.iload_n 0, 1) := by decide +kernel
theorem dJ3_checkIndex_8e157_5 : decode cJ3_checkIndex_8e157 5 = .ok (.iload_n 1, 1) := by decide +kernel
theorem dJ3_checkIndex_8e157_6 : decode cJ3_checkIndex_8e157 6 = .ok (.if_icmp .lt 10, 3) := by decide +kernel
theorem dJ3_checkIndex_8e157_9 : decode cJ3_checkIndex_8e157 9 = .ok (.aload_n 2, 1) := by decide +kernel
theorem dJ3_checkIndex_8e157_10 : decode cJ3_checkIndex_8e157 10 = .ok (.iload_n 0, 1) := by decide +kernel
theorem dJ3_checkIndex_8e157_11 : decode cJ3_checkIndex_8e157 11 = .ok (.iload_n 1, 1) := by decide +kernel
theorem dJ3_checkIndex_8e157_12 : decode cJ3_checkIndex_8e157 12 = .ok (.invokestatic 95, 3) := by decide +kernel
theorem dJ3_checkIndex_8e157_15 : decode cJ3_checkIndex_8e157 15 = .ok (.athrow, 1) := by decide +kernel
theorem dJ3_checkIndex_8e157_16 : decode cJ3_checkIndex_8e157 16 = .ok (.iload_n 0, 1) := by decide +kernel
theorem dJ3_checkIndex_8e157_17 : decode cJ3_checkIndex_8e157 17 = .ok (.ireturn, 1) := by decide +kernel
