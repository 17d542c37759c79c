theorem dX10_init_0 : decode cX10_init 0 = .ok (.aload_n 0, 1) := by decide +kernel
theorem dX10_init_1 : decode cX10_init 1 = .ok (.invokespecial 3, 3) := by decide +kernel
theorem dX10_init_4 : decode cX10_init 4 = .ok (.aload_n 0, 1) := by decide +kernel
theorem dX10_init_5 : decode cX10_init 5 = .ok (.bipush 6, 2) := by decide +kernel
theorem dX10_init_7 : decode cX10_init 7 = .ok (.newarray .int, 2) := by decide +kernel
theorem dX10_init_9 : decode cX10_init 9 = .ok (.putfield 9, 3) := by decide +kernel
theorem dX10_init_12 : decode cX10_init 12 = .ok (.aload_n 0, 1) := by decide +kernel
theorem dX10_init_13 : decode cX10_init 13 = .ok (.new 13, 3) := by decide +kernel
theorem dX10_init_16 : decode cX10_init 16 = .ok (.dup, 1) := by decide +kernel
theorem dX10_init_17 : decode cX10_init 17 = .ok (.invokespecial 15, 3) := by decide +kernel
theorem dX10_init_20 : decode cX10_init 20 = .ok (.putfield 16, 3) := by decide +kernel
theorem dX10_init_23 : decode cX10_init 23 = .ok (.aload_n 0, 1) := by decide +kernel
theorem dX10_init_24 : decode cX10_init 24 = .ok (.new 20, 3) := by decide +kernel
theorem dX10_init_27 : decode cX10_init 27 = .ok (.dup, 1) := by decide +kernel
theorem dX10_init_28 : decode cX10_init 28 = .ok (.invokespecial 22, 3) := by decide +kernel
theorem dX10_init_31 : decode cX10_init 31 = .ok (.putfield 23, 3) := by decide +kernel
theorem dX10_init_34 : decode cX10_init 34 = .ok (.aload_n 0, 1) := by decide +kernel
theorem dX10_init_35 : decode cX10_init 35 = .ok (.new 27, 3) := by decide +kernel
theorem dX10_init_38 : decode cX10_init 38 = .ok (.dup, 1) := by decide +kernel
theorem dX10_init_39 : decode cX10_init 39 = .ok (.invokespecial 29, 3) := by decide +kernel
theorem dX10_init_42 : decode cX10_init 42 = .ok (.putfield 30, 3) := by decide +kernel
theorem dX10_init_45 : decode cX10_init 45 = .ok (.aload_n 0, 1) := by decide +kernel
theorem dX10_init_46 : decode cX10_init 46 = .ok (.new 34, 3) := by decide +kernel
theorem dX10_init_49 : decode cX10_init 49 = .ok (.dup, 1) := by decide +kernel
theorem dX10_init_50 : decode cX10_init 50 = .ok (.invokespecial 36, 3) := by decide +kernel
theorem dX10_init_53 : decode cX10_init 53 = .ok (.putfield 37, 3) := by decide +kernel
theorem dX10_init_56 : decode cX10_init 56 = .ok (.aload_n 0, 1) := by decide +kernel
theorem dX10_init_57 : decode cX10_init 57 = .ok (.new 41, 3) := by decide +kernel
theorem dX10_init_60 : decode cX10_init 60 = .ok (.dup, 1) := by decide +kernel
theorem dX10_init_61 : decode cX10_init 61 = .ok (.invokespecial 43, 3) := by decide +kernel
theorem dX10_init_64 : decode cX10_init 64 = .ok (.putfield 44, 3) := by decide +kernel
theorem dX10_init_67 : decode cX10_init 67 = .ok (.aload_n 0, 1) := by decide +kernel
theorem dX10_init_68 : decode cX10_init 68 = .ok (.new 48, 3) := by decide +kernel
theorem dX10_init_71 : decode cX10_init 71 = .ok (.dup, 1) := by decide +kernel
theorem dX10_init_72 : decode cX10_init 72 = .ok (.invokespecial 50, 3) := by decide +kernel
theorem dX10_init_75 : decode cX10_init 75 = .ok (.putfield 51, 3) := by decide +kernel
theorem dX10_init_78 : decode cX10_init 78 = .ok (.aload_n 0, 1) := by decide +kernel
theorem dX10_init_79 : decode cX10_init 79 = .ok (.new 55, 3) := by decide +kernel
theorem dX10_init_82 : decode cX10_init 82 = .ok (.dup, 1) := by decide +kernel
theorem dX10_init_83 : decode cX10_init 83 = .ok (.invokespecial 57, 3) := by decide +kernel
theorem dX10_init_86 : decode cX10_init 86 = .ok (.putfield 58, 3) := by decide +kernel
theorem dX10_init_89 : decode cX10_init 89 = .ok (.aload_n 0, 1) := by decide +kernel
theorem dX10_init_90 : decode cX10_init 90 = .ok (.new 62, 3) := by decide +kernel
theorem dX10_init_93 : decode cX10_init 93 = .ok (.dup, 1) := by decide +kernel
theorem dX10_init_94 : decode cX10_init 94 = .ok (.invokespecial 64, 3) := by decide +kernel
theorem dX10_init_97 : decode cX10_init 97 = .ok (.putfield 65, 3) := by decide +kernel
theorem dX10_init_100 : decode cX10_init 100 = .ok (.aload_n 0, 1) := by decide +kernel
theorem dX10_init_101 : decode cX10_init 101 = .ok (.new 69, 3) := by decide +kernel
theorem dX10_init_104 : decode cX10_init 104 = .ok (.dup, 1) := by decide +kernel
theorem dX10_init_105 : decode cX10_init 105 = .ok (.invokespecial 71, 3) := by decide +kernel
theorem dX10_init_108 : decode cX10_init 108 = .ok (.putfield 72, 3) := by decide +kernel
theorem dX10_init_111 : decode cX10_init 111 = .ok (.aload_n 0, 1) := by decide +kernel
theorem dX10_init_112 : decode cX10_init 112 = .ok (.new 76, 3) := by decide +kernel
theorem dX10_init_115 : decode cX10_init 115 = .ok (.dup, 1) := by decide +kernel
theorem dX10_init_116 : decode cX10_init 116 = .ok (.invokespecial 78, 3) := by decide +kernel
theorem dX10_init_119 : decode cX10_init 119 = .ok (.putfield 79, 3) := by decide +kernel
theorem dX10_init_122 : decode cX10_init 122 = .ok (.aload_n 0, 1) := by decide +kernel
theorem dX10_init_123 : decode cX10_init 123 = .ok (.iconst 0, 1) := by decide +kernel
theorem dX10_init_124 : decode cX10_init 124 = .ok (.putfield 83, 3) := by decide +kernel
theorem dX10_init_127 : decode cX10_init 127 = .ok (.return_, 1) := by decide +kernel
theorem dX10_paste_0 : decode cX10_paste 0 = .ok (.iload_n 1, 1) := by decide +kernel
theorem dX10_paste_1 : decode cX10_paste 1 = .ok (.bipush 6, 2) := by decide +kernel
theorem dX10_paste_3 : decode cX10_paste 3 = .ok (.invokestatic 87, 3) := by decide +kernel
theorem dX10_paste_6 : decode cX10_paste 6 = .ok (.ifCond .ne 9, 3) := by decide +kernel
theorem dX10_paste_9 : decode cX10_paste 9 = .ok (.aload_n 0, 1) := by decide +kernel
theorem dX10_paste_10 : decode cX10_paste 10 = .ok (.iconst (-1), 1) := by decide +kernel
theorem dX10_paste_11 : decode cX10_paste 11 = .ok (.invokevirtual 91, 3) := by decide +kernel
theorem dX10_paste_14 : decode cX10_paste 14 = .ok (.ireturn, 1) := by decide +kernel
theorem dX10_paste_15 : decode cX10_paste 15 = .ok (.iload_n 2, 1) := by decide +kernel
theorem dX10_paste_16 : decode cX10_paste 16 = .ok (.iconst 4, 1) := by decide +kernel
theorem dX10_paste_17 : decode cX10_paste 17 = .ok (.invokestatic 87, 3) := by decide +kernel
theorem dX10_paste_20 : decode cX10_paste 20 = .ok (.ifCond .ne 10, 3) := by decide +kernel
theorem dX10_paste_23 : decode cX10_paste 23 = .ok (.aload_n 0, 1) := by decide +kernel
theorem dX10_paste_24 : decode cX10_paste 24 = .ok (.bipush (-2), 2) := by decide +kernel
theorem dX10_paste_26 : decode cX10_paste 26 = .ok (.invokevirtual 91, 3) := by decide +kernel
theorem dX10_paste_29 : decode cX10_paste 29 = .ok (.ireturn, 1) := by decide +kernel
theorem dX10_paste_30 : decode cX10_paste 30 = .ok (.iload_n 3, 1) := by decide +kernel
theorem dX10_paste_31 : decode cX10_paste 31 = .ok (.ifCond .ge 10, 3) := by decide +kernel
theorem dX10_paste_34 : decode cX10_paste 34 = .ok (.aload_n 0, 1) := by decide +kernel
theorem dX10_paste_35 : decode cX10_paste 35 = .ok (.bipush (-4), 2) := by decide +kernel
theorem dX10_paste_37 : decode cX10_paste 37 = .ok (.invokevirtual 91, 3) := by decide +kernel
theorem dX10_paste_40 : decode cX10_paste 40 = .ok (.ireturn, 1) := by decide +kernel
theorem dX10_paste_41 : decode cX10_paste 41 = .ok (.iload_n 3, 1) := by decide +kernel
theorem dX10_paste_42 : decode cX10_paste 42 = .ok (.getstatic 95, 3) := by decide +kernel
theorem dX10_paste_45 : decode cX10_paste 45 = .ok (.iload_n 2, 1) := by decide +kernel
theorem dX10_paste_46 : decode cX10_paste 46 = .ok (.iaload, 1) := by decide +kernel
theorem dX10_paste_47 : decode cX10_paste 47 = .ok (.if_icmp .le 10, 3) := by decide +kernel
theorem dX10_paste_50 : decode cX10_paste 50 = .ok (.aload_n 0, 1) := by decide +kernel
theorem dX10_paste_51 : decode cX10_paste 51 = .ok (.bipush (-6), 2) := by decide +kernel
theorem dX10_paste_53 : decode cX10_paste 53 = .ok (.invokevirtual 91, 3) := by decide +kernel
theorem dX10_paste_56 : decode cX10_paste 56 = .ok (.ireturn, 1) := by decide +kernel
theorem dX10_paste_57 : decode cX10_paste 57 = .ok (.aload_n 0, 1) := by decide +kernel
theorem dX10_paste_58 : decode cX10_paste 58 = .ok (.getfield 16, 3) := by decide +kernel
theorem dX10_paste_61 : decode cX10_paste 61 = .ok (.iload_n 1, 1) := by decide +kernel
theorem dX10_paste_62 : decode cX10_paste 62 = .ok (.iload_n 2, 1) := by decide +kernel
theorem dX10_paste_63 : decode cX10_paste 63 = .ok (.iload_n 3, 1) := by decide +kernel
theorem dX10_paste_64 : decode cX10_paste 64 = .ok (.invokevirtual 98, 3) := by decide +kernel
theorem dX10_paste_67 : decode cX10_paste 67 = .ok (.ireturn, 1) := by decide +kernel
theorem dX10_batch_0 : decode cX10_batch 0 = .ok (.iload_n 1, 1) := by decide +kernel
theorem dX10_batch_1 : decode cX10_batch 1 = .ok (.bipush 6, 2) := by decide +kernel
theorem dX10_batch_3 : decode cX10_batch 3 = .ok (.invokestatic 87, 3) := by decide +kernel
theorem dX10_batch_6 : decode cX10_batch 6 = .ok (.ifCond .ne 9, 3) := by decide +kernel
theorem dX10_batch_9 : decode cX10_batch 9 = .ok (.aload_n 0, 1) := by decide +kernel
theorem dX10_batch_10 : decode cX10_batch 10 = .ok (.iconst (-1), 1) := by decide +kernel
theorem dX10_batch_11 : decode cX10_batch 11 = .ok (.invokevirtual 91, 3) := by decide +kernel
theorem dX10_batch_14 : decode cX10_batch 14 = .ok (.ireturn, 1) := by decide +kernel
theorem dX10_batch_15 : decode cX10_batch 15 = .ok (.iload_n 2, 1) := by decide +kernel
theorem dX10_batch_16 : decode cX10_batch 16 = .ok (.iconst 1, 1) := by decide +kernel
theorem dX10_batch_17 : decode cX10_batch 17 = .ok (.if_icmp .ge 10, 3) := by decide +kernel
theorem dX10_batch_20 : decode cX10_batch 20 = .ok (.aload_n 0, 1) := by decide +kernel
theorem dX10_batch_21 : decode cX10_batch 21 = .ok (.bipush (-4), 2) := by decide +kernel
theorem dX10_batch_23 : decode cX10_batch 23 = .ok (.invokevirtual 91, 3) := by decide +kernel
theorem dX10_batch_26 : decode cX10_batch 26 = .ok (.ireturn, 1) := by decide +kernel
theorem dX10_batch_27 : decode cX10_batch 27 = .ok (.iload_n 2, 1) := by decide +kernel
theorem dX10_batch_28 : decode cX10_batch 28 = .ok (.sipush 1000, 3) := by decide +kernel
theorem dX10_batch_31 : decode cX10_batch 31 = .ok (.if_icmp .gt 15, 3) := by decide +kernel
theorem dX10_batch_34 : decode cX10_batch 34 = .ok (.aload_n 0, 1) := by decide +kernel
theorem dX10_batch_35 : decode cX10_batch 35 = .ok (.getfield 16, 3) := by decide +kernel
theorem dX10_batch_38 : decode cX10_batch 38 = .ok (.getfield 102, 3) := by decide +kernel
theorem dX10_batch_41 : decode cX10_batch 41 = .ok (.bipush 20, 2) := by decide +kernel
theorem dX10_batch_43 : decode cX10_batch 43 = .ok (.if_icmp .lt 10, 3) := by decide +kernel
theorem dX10_batch_46 : decode cX10_batch 46 = .ok (.aload_n 0, 1) := by decide +kernel
theorem dX10_batch_47 : decode cX10_batch 47 = .ok (.bipush (-6), 2) := by decide +kernel
theorem dX10_batch_49 : decode cX10_batch 49 = .ok (.invokevirtual 91, 3) := by decide +kernel
theorem dX10_batch_52 : decode cX10_batch 52 = .ok (.ireturn, 1) := by decide +kernel
theorem dX10_batch_53 : decode cX10_batch 53 = .ok (.aload_n 0, 1) := by decide +kernel
theorem dX10_batch_54 : decode cX10_batch 54 = .ok (.getfield 16, 3) := by decide +kernel
theorem dX10_batch_57 : decode cX10_batch 57 = .ok (.iload_n 1, 1) := by decide +kernel
theorem dX10_batch_58 : decode cX10_batch 58 = .ok (.iload_n 2, 1) := by decide +kernel
theorem dX10_batch_59 : decode cX10_batch 59 = .ok (.aload_n 0, 1) := by decide +kernel
theorem dX10_batch_60 : decode cX10_batch 60 = .ok (.getfield 83, 3) := by decide +kernel
theorem dX10_batch_63 : decode cX10_batch 63 = .ok (.invokevirtual 105, 3) := by decide +kernel
theorem dX10_batch_66 : decode cX10_batch 66 = .ok (.ireturn, 1) := by decide +kernel
theorem dX10_days_0 : decode cX10_days 0 = .ok (.iload_n 1, 1) := by decide +kernel
theorem dX10_days_1 : decode cX10_days 1 = .ok (.iconst 1, 1) := by decide +kernel
theorem dX10_days_2 : decode cX10_days 2 = .ok (.if_icmp .ge 10, 3) := by decide +kernel
theorem dX10_days_5 : decode cX10_days 5 = .ok (.aload_n 0, 1) := by decide +kernel
theorem dX10_days_6 : decode cX10_days 6 = .ok (.bipush (-4), 2) := by decide +kernel
theorem dX10_days_8 : decode cX10_days 8 = .ok (.invokevirtual 91, 3) := by decide +kernel
theorem dX10_days_11 : decode cX10_days 11 = .ok (.ireturn, 1) := by decide +kernel
theorem dX10_days_12 : decode cX10_days 12 = .ok (.iload_n 1, 1) := by decide +kernel
theorem dX10_days_13 : decode cX10_days 13 = .ok (.sipush 4000, 3) := by decide +kernel
theorem dX10_days_16 : decode cX10_days 16 = .ok (.aload_n 0, 1) := by decide +kernel
theorem dX10_days_17 : decode cX10_days 17 = .ok (.getfield 83, 3) := by decide +kernel
theorem dX10_days_20 : decode cX10_days 20 = .ok (.isub, 1) := by decide +kernel
theorem dX10_days_21 : decode cX10_days 21 = .ok (.if_icmp .le 10, 3) := by decide +kernel
theorem dX10_days_24 : decode cX10_days 24 = .ok (.aload_n 0, 1) := by decide +kernel
theorem dX10_days_25 : decode cX10_days 25 = .ok (.bipush (-6), 2) := by decide +kernel
theorem dX10_days_27 : decode cX10_days 27 = .ok (.invokevirtual 91, 3) := by decide +kernel
theorem dX10_days_30 : decode cX10_days 30 = .ok (.ireturn, 1) := by decide +kernel
theorem dX10_days_31 : decode cX10_days 31 = .ok (.aload_n 0, 1) := by decide +kernel
theorem dX10_days_32 : decode cX10_days 32 = .ok (.iload_n 1, 1) := by decide +kernel
theorem dX10_days_33 : decode cX10_days 33 = .ok (.invokevirtual 108, 3) := by decide +kernel
theorem dX10_days_36 : decode cX10_days 36 = .ok (.aload_n 0, 1) := by decide +kernel
theorem dX10_days_37 : decode cX10_days 37 = .ok (.getfield 83, 3) := by decide +kernel
theorem dX10_days_40 : decode cX10_days 40 = .ok (.ireturn, 1) := by decide +kernel
theorem dX10_piece_0 : decode cX10_piece 0 = .ok (.iload_n 1, 1) := by decide +kernel
theorem dX10_piece_1 : decode cX10_piece 1 = .ok (.aload_n 0, 1) := by decide +kernel
theorem dX10_piece_2 : decode cX10_piece 2 = .ok (.getfield 16, 3) := by decide +kernel
theorem dX10_piece_5 : decode cX10_piece 5 = .ok (.getfield 102, 3) := by decide +kernel
theorem dX10_piece_8 : decode cX10_piece 8 = .ok (.invokestatic 87, 3) := by decide +kernel
theorem dX10_piece_11 : decode cX10_piece 11 = .ok (.ifCond .eq 12, 3) := by decide +kernel
theorem dX10_piece_14 : decode cX10_piece 14 = .ok (.iload_n 2, 1) := by decide +kernel
theorem dX10_piece_15 : decode cX10_piece 15 = .ok (.bipush 10, 2) := by decide +kernel
theorem dX10_piece_17 : decode cX10_piece 17 = .ok (.invokestatic 87, 3) := by decide +kernel
theorem dX10_piece_20 : decode cX10_piece 20 = .ok (.ifCond .ne 9, 3) := by decide +kernel
theorem dX10_piece_23 : decode cX10_piece 23 = .ok (.aload_n 0, 1) := by decide +kernel
theorem dX10_piece_24 : decode cX10_piece 24 = .ok (.iconst (-1), 1) := by decide +kernel
theorem dX10_piece_25 : decode cX10_piece 25 = .ok (.invokevirtual 91, 3) := by decide +kernel
theorem dX10_piece_28 : decode cX10_piece 28 = .ok (.ireturn, 1) := by decide +kernel
theorem dX10_piece_29 : decode cX10_piece 29 = .ok (.aload_n 0, 1) := by decide +kernel
theorem dX10_piece_30 : decode cX10_piece 30 = .ok (.getfield 16, 3) := by decide +kernel
theorem dX10_piece_33 : decode cX10_piece 33 = .ok (.iload_n 1, 1) := by decide +kernel
theorem dX10_piece_34 : decode cX10_piece 34 = .ok (.aload_n 0, 1) := by decide +kernel
theorem dX10_piece_35 : decode cX10_piece 35 = .ok (.getfield 83, 3) := by decide +kernel
theorem dX10_piece_38 : decode cX10_piece 38 = .ok (.invokevirtual 112, 3) := by decide +kernel
theorem dX10_piece_41 : decode cX10_piece 41 = .ok (.ifCond .ne 10, 3) := by decide +kernel
theorem dX10_piece_44 : decode cX10_piece 44 = .ok (.aload_n 0, 1) := by decide +kernel
theorem dX10_piece_45 : decode cX10_piece 45 = .ok (.bipush (-3), 2) := by decide +kernel
theorem dX10_piece_47 : decode cX10_piece 47 = .ok (.invokevirtual 91, 3) := by decide +kernel
theorem dX10_piece_50 : decode cX10_piece 50 = .ok (.ireturn, 1) := by decide +kernel
theorem dX10_piece_51 : decode cX10_piece 51 = .ok (.iload_n 3, 1) := by decide +kernel
theorem dX10_piece_52 : decode cX10_piece 52 = .ok (.iconst 1, 1) := by decide +kernel
theorem dX10_piece_53 : decode cX10_piece 53 = .ok (.if_icmp .lt 10, 3) := by decide +kernel
theorem dX10_piece_56 : decode cX10_piece 56 = .ok (.iload 4, 2) := by decide +kernel
theorem dX10_piece_58 : decode cX10_piece 58 = .ok (.bipush 10, 2) := by decide +kernel
theorem dX10_piece_60 : decode cX10_piece 60 = .ok (.if_icmp .ge 10, 3) := by decide +kernel
theorem dX10_piece_63 : decode cX10_piece 63 = .ok (.aload_n 0, 1) := by decide +kernel
theorem dX10_piece_64 : decode cX10_piece 64 = .ok (.bipush (-4), 2) := by decide +kernel
theorem dX10_piece_66 : decode cX10_piece 66 = .ok (.invokevirtual 91, 3) := by decide +kernel
theorem dX10_piece_69 : decode cX10_piece 69 = .ok (.ireturn, 1) := by decide +kernel
theorem dX10_piece_70 : decode cX10_piece 70 = .ok (.iload_n 3, 1) := by decide +kernel
theorem dX10_piece_71 : decode cX10_piece 71 = .ok (.bipush 40, 2) := by decide +kernel
theorem dX10_piece_73 : decode cX10_piece 73 = .ok (.if_icmp .gt 36, 3) := by decide +kernel
theorem dX10_piece_76 : decode cX10_piece 76 = .ok (.iload_n 3, 1) := by decide +kernel
theorem dX10_piece_77 : decode cX10_piece 77 = .ok (.aload_n 0, 1) := by decide +kernel
theorem dX10_piece_78 : decode cX10_piece 78 = .ok (.getfield 16, 3) := by decide +kernel
theorem dX10_piece_81 : decode cX10_piece 81 = .ok (.getfield 115, 3) := by decide +kernel
theorem dX10_piece_84 : decode cX10_piece 84 = .ok (.iload_n 1, 1) := by decide +kernel
theorem dX10_piece_85 : decode cX10_piece 85 = .ok (.iaload, 1) := by decide +kernel
theorem dX10_piece_86 : decode cX10_piece 86 = .ok (.if_icmp .gt 23, 3) := by decide +kernel
theorem dX10_piece_89 : decode cX10_piece 89 = .ok (.iload 4, 2) := by decide +kernel
theorem dX10_piece_91 : decode cX10_piece 91 = .ok (.sipush 900, 3) := by decide +kernel
theorem dX10_piece_94 : decode cX10_piece 94 = .ok (.if_icmp .gt 15, 3) := by decide +kernel
theorem dX10_piece_97 : decode cX10_piece 97 = .ok (.aload_n 0, 1) := by decide +kernel
theorem dX10_piece_98 : decode cX10_piece 98 = .ok (.getfield 23, 3) := by decide +kernel
theorem dX10_piece_101 : decode cX10_piece 101 = .ok (.getfield 118, 3) := by decide +kernel
theorem dX10_piece_104 : decode cX10_piece 104 = .ok (.bipush 80, 2) := by decide +kernel
theorem dX10_piece_106 : decode cX10_piece 106 = .ok (.if_icmp .lt 10, 3) := by decide +kernel
theorem dX10_piece_109 : decode cX10_piece 109 = .ok (.aload_n 0, 1) := by decide +kernel
theorem dX10_piece_110 : decode cX10_piece 110 = .ok (.bipush (-6), 2) := by decide +kernel
theorem dX10_piece_112 : decode cX10_piece 112 = .ok (.invokevirtual 91, 3) := by decide +kernel
theorem dX10_piece_115 : decode cX10_piece 115 = .ok (.ireturn, 1) := by decide +kernel
theorem dX10_piece_116 : decode cX10_piece 116 = .ok (.aload_n 0, 1) := by decide +kernel
theorem dX10_piece_117 : decode cX10_piece 117 = .ok (.getfield 16, 3) := by decide +kernel
theorem dX10_piece_120 : decode cX10_piece 120 = .ok (.getfield 115, 3) := by decide +kernel
theorem dX10_piece_123 : decode cX10_piece 123 = .ok (.iload_n 1, 1) := by decide +kernel
theorem dX10_piece_124 : decode cX10_piece 124 = .ok (.dup2, 1) := by decide +kernel
theorem dX10_piece_125 : decode cX10_piece 125 = .ok (.iaload, 1) := by decide +kernel
theorem dX10_piece_126 : decode cX10_piece 126 = .ok (.iload_n 3, 1) := by decide +kernel
theorem dX10_piece_127 : decode cX10_piece 127 = .ok (.isub, 1) := by decide +kernel
theorem dX10_piece_128 : decode cX10_piece 128 = .ok (.iastore, 1) := by decide +kernel
theorem dX10_piece_129 : decode cX10_piece 129 = .ok (.aload_n 0, 1) := by decide +kernel
theorem dX10_piece_130 : decode cX10_piece 130 = .ok (.getfield 23, 3) := by decide +kernel
theorem dX10_piece_133 : decode cX10_piece 133 = .ok (.aload_n 0, 1) := by decide +kernel
theorem dX10_piece_134 : decode cX10_piece 134 = .ok (.getfield 16, 3) := by decide +kernel
theorem dX10_piece_137 : decode cX10_piece 137 = .ok (.getfield 121, 3) := by decide +kernel
theorem dX10_piece_140 : decode cX10_piece 140 = .ok (.iload_n 1, 1) := by decide +kernel
theorem dX10_piece_141 : decode cX10_piece 141 = .ok (.iaload, 1) := by decide +kernel
theorem dX10_piece_142 : decode cX10_piece 142 = .ok (.iload_n 2, 1) := by decide +kernel
theorem dX10_piece_143 : decode cX10_piece 143 = .ok (.iload 4, 2) := by decide +kernel
theorem dX10_piece_145 : decode cX10_piece 145 = .ok (.invokevirtual 124, 3) := by decide +kernel
theorem dX10_piece_148 : decode cX10_piece 148 = .ok (.ireturn, 1) := by decide +kernel
theorem dX10_place_0 : decode cX10_place 0 = .ok (.iload_n 1, 1) := by decide +kernel
theorem dX10_place_1 : decode cX10_place 1 = .ok (.bipush 12, 2) := by decide +kernel
theorem dX10_place_3 : decode cX10_place 3 = .ok (.invokestatic 87, 3) := by decide +kernel
theorem dX10_place_6 : decode cX10_place 6 = .ok (.ifCond .ne 9, 3) := by decide +kernel
theorem dX10_place_9 : decode cX10_place 9 = .ok (.aload_n 0, 1) := by decide +kernel
theorem dX10_place_10 : decode cX10_place 10 = .ok (.iconst (-1), 1) := by decide +kernel
theorem dX10_place_11 : decode cX10_place 11 = .ok (.invokevirtual 91, 3) := by decide +kernel
theorem dX10_place_14 : decode cX10_place 14 = .ok (.ireturn, 1) := by decide +kernel
theorem dX10_place_15 : decode cX10_place 15 = .ok (.iload_n 2, 1) := by decide +kernel
theorem dX10_place_16 : decode cX10_place 16 = .ok (.iconst 2, 1) := by decide +kernel
theorem dX10_place_17 : decode cX10_place 17 = .ok (.invokestatic 87, 3) := by decide +kernel
theorem dX10_place_20 : decode cX10_place 20 = .ok (.ifCond .ne 10, 3) := by decide +kernel
theorem dX10_place_23 : decode cX10_place 23 = .ok (.aload_n 0, 1) := by decide +kernel
theorem dX10_place_24 : decode cX10_place 24 = .ok (.bipush (-2), 2) := by decide +kernel
theorem dX10_place_26 : decode cX10_place 26 = .ok (.invokevirtual 91, 3) := by decide +kernel
theorem dX10_place_29 : decode cX10_place 29 = .ok (.ireturn, 1) := by decide +kernel
theorem dX10_place_30 : decode cX10_place 30 = .ok (.iload_n 3, 1) := by decide +kernel
theorem dX10_place_31 : decode cX10_place 31 = .ok (.getstatic 127, 3) := by decide +kernel
theorem dX10_place_34 : decode cX10_place 34 = .ok (.iload_n 2, 1) := by decide +kernel
theorem dX10_place_35 : decode cX10_place 35 = .ok (.iaload, 1) := by decide +kernel
theorem dX10_place_36 : decode cX10_place 36 = .ok (.if_icmp .ge 10, 3) := by decide +kernel
theorem dX10_place_39 : decode cX10_place 39 = .ok (.aload_n 0, 1) := by decide +kernel
theorem dX10_place_40 : decode cX10_place 40 = .ok (.bipush (-4), 2) := by decide +kernel
theorem dX10_place_42 : decode cX10_place 42 = .ok (.invokevirtual 91, 3) := by decide +kernel
theorem dX10_place_45 : decode cX10_place 45 = .ok (.ireturn, 1) := by decide +kernel
theorem dX10_place_46 : decode cX10_place 46 = .ok (.iload_n 3, 1) := by decide +kernel
theorem dX10_place_47 : decode cX10_place 47 = .ok (.getstatic 130, 3) := by decide +kernel
theorem dX10_place_50 : decode cX10_place 50 = .ok (.iload_n 2, 1) := by decide +kernel
theorem dX10_place_51 : decode cX10_place 51 = .ok (.iaload, 1) := by decide +kernel
theorem dX10_place_52 : decode cX10_place 52 = .ok (.if_icmp .le 10, 3) := by decide +kernel
theorem dX10_place_55 : decode cX10_place 55 = .ok (.aload_n 0, 1) := by decide +kernel
theorem dX10_place_56 : decode cX10_place 56 = .ok (.bipush (-6), 2) := by decide +kernel
theorem dX10_place_58 : decode cX10_place 58 = .ok (.invokevirtual 91, 3) := by decide +kernel
theorem dX10_place_61 : decode cX10_place 61 = .ok (.ireturn, 1) := by decide +kernel
theorem dX10_place_62 : decode cX10_place 62 = .ok (.aload_n 0, 1) := by decide +kernel
theorem dX10_place_63 : decode cX10_place 63 = .ok (.getfield 30, 3) := by decide +kernel
theorem dX10_place_66 : decode cX10_place 66 = .ok (.iload_n 1, 1) := by decide +kernel
theorem dX10_place_67 : decode cX10_place 67 = .ok (.iload_n 2, 1) := by decide +kernel
theorem dX10_place_68 : decode cX10_place 68 = .ok (.iload_n 3, 1) := by decide +kernel
theorem dX10_place_69 : decode cX10_place 69 = .ok (.invokevirtual 133, 3) := by decide +kernel
theorem dX10_place_72 : decode cX10_place 72 = .ok (.ireturn, 1) := by decide +kernel
theorem dX10_wood_0 : decode cX10_wood 0 = .ok (.iload_n 1, 1) := by decide +kernel
theorem dX10_wood_1 : decode cX10_wood 1 = .ok (.ifCond .ge 10, 3) := by decide +kernel
theorem dX10_wood_4 : decode cX10_wood 4 = .ok (.aload_n 0, 1) := by decide +kernel
theorem dX10_wood_5 : decode cX10_wood 5 = .ok (.bipush (-4), 2) := by decide +kernel
theorem dX10_wood_7 : decode cX10_wood 7 = .ok (.invokevirtual 91, 3) := by decide +kernel
theorem dX10_wood_10 : decode cX10_wood 10 = .ok (.ireturn, 1) := by decide +kernel
theorem dX10_wood_11 : decode cX10_wood 11 = .ok (.iload_n 1, 1) := by decide +kernel
theorem dX10_wood_12 : decode cX10_wood 12 = .ok (.bipush 50, 2) := by decide +kernel
theorem dX10_wood_14 : decode cX10_wood 14 = .ok (.if_icmp .gt 15, 3) := by decide +kernel
theorem dX10_wood_17 : decode cX10_wood 17 = .ok (.aload_n 0, 1) := by decide +kernel
theorem dX10_wood_18 : decode cX10_wood 18 = .ok (.getfield 30, 3) := by decide +kernel
theorem dX10_wood_21 : decode cX10_wood 21 = .ok (.getfield 134, 3) := by decide +kernel
theorem dX10_wood_24 : decode cX10_wood 24 = .ok (.bipush 48, 2) := by decide +kernel
theorem dX10_wood_26 : decode cX10_wood 26 = .ok (.if_icmp .lt 10, 3) := by decide +kernel
theorem dX10_wood_29 : decode cX10_wood 29 = .ok (.aload_n 0, 1) := by decide +kernel
theorem dX10_wood_30 : decode cX10_wood 30 = .ok (.bipush (-6), 2) := by decide +kernel
theorem dX10_wood_32 : decode cX10_wood 32 = .ok (.invokevirtual 91, 3) := by decide +kernel
theorem dX10_wood_35 : decode cX10_wood 35 = .ok (.ireturn, 1) := by decide +kernel
theorem dX10_wood_36 : decode cX10_wood 36 = .ok (.aload_n 0, 1) := by decide +kernel
theorem dX10_wood_37 : decode cX10_wood 37 = .ok (.getfield 30, 3) := by decide +kernel
theorem dX10_wood_40 : decode cX10_wood 40 = .ok (.iload_n 1, 1) := by decide +kernel
theorem dX10_wood_41 : decode cX10_wood 41 = .ok (.invokevirtual 137, 3) := by decide +kernel
theorem dX10_wood_44 : decode cX10_wood 44 = .ok (.ireturn, 1) := by decide +kernel
theorem dX10_clear_0 : decode cX10_clear 0 = .ok (.aload_n 0, 1) := by decide +kernel
theorem dX10_clear_1 : decode cX10_clear 1 = .ok (.getfield 30, 3) := by decide +kernel
theorem dX10_clear_4 : decode cX10_clear 4 = .ok (.invokevirtual 140, 3) := by decide +kernel
theorem dX10_clear_7 : decode cX10_clear 7 = .ok (.ireturn, 1) := by decide +kernel
theorem dX10_peak_0 : decode cX10_peak 0 = .ok (.iload_n 1, 1) := by decide +kernel
theorem dX10_peak_1 : decode cX10_peak 1 = .ok (.bipush 12, 2) := by decide +kernel
theorem dX10_peak_3 : decode cX10_peak 3 = .ok (.invokestatic 87, 3) := by decide +kernel
theorem dX10_peak_6 : decode cX10_peak 6 = .ok (.ifCond .ne 9, 3) := by decide +kernel
theorem dX10_peak_9 : decode cX10_peak 9 = .ok (.aload_n 0, 1) := by decide +kernel
theorem dX10_peak_10 : decode cX10_peak 10 = .ok (.iconst (-1), 1) := by decide +kernel
theorem dX10_peak_11 : decode cX10_peak 11 = .ok (.invokevirtual 91, 3) := by decide +kernel
theorem dX10_peak_14 : decode cX10_peak 14 = .ok (.ireturn, 1) := by decide +kernel
theorem dX10_peak_15 : decode cX10_peak 15 = .ok (.aload_n 0, 1) := by decide +kernel
theorem dX10_peak_16 : decode cX10_peak 16 = .ok (.getfield 30, 3) := by decide +kernel
theorem dX10_peak_19 : decode cX10_peak 19 = .ok (.aload_n 0, 1) := by decide +kernel
theorem dX10_peak_20 : decode cX10_peak 20 = .ok (.getfield 30, 3) := by decide +kernel
theorem dX10_peak_23 : decode cX10_peak 23 = .ok (.getfield 134, 3) := by decide +kernel
theorem dX10_peak_26 : decode cX10_peak 26 = .ok (.invokevirtual 144, 3) := by decide +kernel
theorem dX10_peak_29 : decode cX10_peak 29 = .ok (.aload_n 0, 1) := by decide +kernel
theorem dX10_peak_30 : decode cX10_peak 30 = .ok (.getfield 30, 3) := by decide +kernel
theorem dX10_peak_33 : decode cX10_peak 33 = .ok (.getfield 147, 3) := by decide +kernel
theorem dX10_peak_36 : decode cX10_peak 36 = .ok (.iload_n 1, 1) := by decide +kernel
theorem dX10_peak_37 : decode cX10_peak 37 = .ok (.iaload, 1) := by decide +kernel
theorem dX10_peak_38 : decode cX10_peak 38 = .ok (.ireturn, 1) := by decide +kernel
theorem dX10_heat_0 : decode cX10_heat 0 = .ok (.iload_n 1, 1) := by decide +kernel
theorem dX10_heat_1 : decode cX10_heat 1 = .ok (.bipush 12, 2) := by decide +kernel
theorem dX10_heat_3 : decode cX10_heat 3 = .ok (.invokestatic 87, 3) := by decide +kernel
theorem dX10_heat_6 : decode cX10_heat 6 = .ok (.ifCond .ne 9, 3) := by decide +kernel
theorem dX10_heat_9 : decode cX10_heat 9 = .ok (.aload_n 0, 1) := by decide +kernel
theorem dX10_heat_10 : decode cX10_heat 10 = .ok (.iconst (-1), 1) := by decide +kernel
theorem dX10_heat_11 : decode cX10_heat 11 = .ok (.invokevirtual 91, 3) := by decide +kernel
theorem dX10_heat_14 : decode cX10_heat 14 = .ok (.ireturn, 1) := by decide +kernel
theorem dX10_heat_15 : decode cX10_heat 15 = .ok (.iload_n 2, 1) := by decide +kernel
theorem dX10_heat_16 : decode cX10_heat 16 = .ok (.ifCond .ge 10, 3) := by decide +kernel
theorem dX10_heat_19 : decode cX10_heat 19 = .ok (.aload_n 0, 1) := by decide +kernel
theorem dX10_heat_20 : decode cX10_heat 20 = .ok (.bipush (-4), 2) := by decide +kernel
theorem dX10_heat_22 : decode cX10_heat 22 = .ok (.invokevirtual 91, 3) := by decide +kernel
theorem dX10_heat_25 : decode cX10_heat 25 = .ok (.ireturn, 1) := by decide +kernel
theorem dX10_heat_26 : decode cX10_heat 26 = .ok (.iload_n 2, 1) := by decide +kernel
theorem dX10_heat_27 : decode cX10_heat 27 = .ok (.aload_n 0, 1) := by decide +kernel
theorem dX10_heat_28 : decode cX10_heat 28 = .ok (.getfield 30, 3) := by decide +kernel
theorem dX10_heat_31 : decode cX10_heat 31 = .ok (.getfield 134, 3) := by decide +kernel
theorem dX10_heat_34 : decode cX10_heat 34 = .ok (.if_icmp .le 10, 3) := by decide +kernel
theorem dX10_heat_37 : decode cX10_heat 37 = .ok (.aload_n 0, 1) := by decide +kernel
theorem dX10_heat_38 : decode cX10_heat 38 = .ok (.bipush (-6), 2) := by decide +kernel
theorem dX10_heat_40 : decode cX10_heat 40 = .ok (.invokevirtual 91, 3) := by decide +kernel
theorem dX10_heat_43 : decode cX10_heat 43 = .ok (.ireturn, 1) := by decide +kernel
theorem dX10_heat_44 : decode cX10_heat 44 = .ok (.aload_n 0, 1) := by decide +kernel
theorem dX10_heat_45 : decode cX10_heat 45 = .ok (.getfield 30, 3) := by decide +kernel
theorem dX10_heat_48 : decode cX10_heat 48 = .ok (.iload_n 2, 1) := by decide +kernel
theorem dX10_heat_49 : decode cX10_heat 49 = .ok (.invokevirtual 144, 3) := by decide +kernel
theorem dX10_heat_52 : decode cX10_heat 52 = .ok (.aload_n 0, 1) := by decide +kernel
theorem dX10_heat_53 : decode cX10_heat 53 = .ok (.getfield 30, 3) := by decide +kernel
theorem dX10_heat_56 : decode cX10_heat 56 = .ok (.getfield 150, 3) := by decide +kernel
theorem dX10_heat_59 : decode cX10_heat 59 = .ok (.iload_n 1, 1) := by decide +kernel
theorem dX10_heat_60 : decode cX10_heat 60 = .ok (.iaload, 1) := by decide +kernel
theorem dX10_heat_61 : decode cX10_heat 61 = .ok (.ireturn, 1) := by decide +kernel
theorem dX10_stack_0 : decode cX10_stack 0 = .ok (.iload_n 1, 1) := by decide +kernel
theorem dX10_stack_1 : decode cX10_stack 1 = .ok (.aload_n 0, 1) := by decide +kernel
theorem dX10_stack_2 : decode cX10_stack 2 = .ok (.getfield 23, 3) := by decide +kernel
theorem dX10_stack_5 : decode cX10_stack 5 = .ok (.getfield 118, 3) := by decide +kernel
theorem dX10_stack_8 : decode cX10_stack 8 = .ok (.invokestatic 87, 3) := by decide +kernel
theorem dX10_stack_11 : decode cX10_stack 11 = .ok (.ifCond .eq 12, 3) := by decide +kernel
theorem dX10_stack_14 : decode cX10_stack 14 = .ok (.iload_n 2, 1) := by decide +kernel
theorem dX10_stack_15 : decode cX10_stack 15 = .ok (.bipush 12, 2) := by decide +kernel
theorem dX10_stack_17 : decode cX10_stack 17 = .ok (.invokestatic 87, 3) := by decide +kernel
theorem dX10_stack_20 : decode cX10_stack 20 = .ok (.ifCond .ne 9, 3) := by decide +kernel
theorem dX10_stack_23 : decode cX10_stack 23 = .ok (.aload_n 0, 1) := by decide +kernel
theorem dX10_stack_24 : decode cX10_stack 24 = .ok (.iconst (-1), 1) := by decide +kernel
theorem dX10_stack_25 : decode cX10_stack 25 = .ok (.invokevirtual 91, 3) := by decide +kernel
theorem dX10_stack_28 : decode cX10_stack 28 = .ok (.ireturn, 1) := by decide +kernel
theorem dX10_stack_29 : decode cX10_stack 29 = .ok (.aload_n 0, 1) := by decide +kernel
theorem dX10_stack_30 : decode cX10_stack 30 = .ok (.iload_n 1, 1) := by decide +kernel
theorem dX10_stack_31 : decode cX10_stack 31 = .ok (.invokevirtual 153, 3) := by decide +kernel
theorem dX10_stack_34 : decode cX10_stack 34 = .ok (.ifCond .eq 17, 3) := by decide +kernel
theorem dX10_stack_37 : decode cX10_stack 37 = .ok (.aload_n 0, 1) := by decide +kernel
theorem dX10_stack_38 : decode cX10_stack 38 = .ok (.getfield 30, 3) := by decide +kernel
theorem dX10_stack_41 : decode cX10_stack 41 = .ok (.getfield 157, 3) := by decide +kernel
theorem dX10_stack_44 : decode cX10_stack 44 = .ok (.iload_n 2, 1) := by decide +kernel
theorem dX10_stack_45 : decode cX10_stack 45 = .ok (.iaload, 1) := by decide +kernel
theorem dX10_stack_46 : decode cX10_stack 46 = .ok (.bipush (-9), 2) := by decide +kernel
theorem dX10_stack_48 : decode cX10_stack 48 = .ok (.if_icmp .eq 10, 3) := by decide +kernel
theorem dX10_stack_51 : decode cX10_stack 51 = .ok (.aload_n 0, 1) := by decide +kernel
theorem dX10_stack_52 : decode cX10_stack 52 = .ok (.bipush (-3), 2) := by decide +kernel
theorem dX10_stack_54 : decode cX10_stack 54 = .ok (.invokevirtual 91, 3) := by decide +kernel
theorem dX10_stack_57 : decode cX10_stack 57 = .ok (.ireturn, 1) := by decide +kernel
theorem dX10_stack_58 : decode cX10_stack 58 = .ok (.aload_n 0, 1) := by decide +kernel
theorem dX10_stack_59 : decode cX10_stack 59 = .ok (.iload_n 1, 1) := by decide +kernel
theorem dX10_stack_60 : decode cX10_stack 60 = .ok (.iload_n 2, 1) := by decide +kernel
theorem dX10_stack_61 : decode cX10_stack 61 = .ok (.invokevirtual 160, 3) := by decide +kernel
theorem dX10_stack_64 : decode cX10_stack 64 = .ok (.iconst 1, 1) := by decide +kernel
theorem dX10_stack_65 : decode cX10_stack 65 = .ok (.ireturn, 1) := by decide +kernel
theorem dX10_unstack_0 : decode cX10_unstack 0 = .ok (.iload_n 1, 1) := by decide +kernel
theorem dX10_unstack_1 : decode cX10_unstack 1 = .ok (.bipush 12, 2) := by decide +kernel
theorem dX10_unstack_3 : decode cX10_unstack 3 = .ok (.invokestatic 87, 3) := by decide +kernel
theorem dX10_unstack_6 : decode cX10_unstack 6 = .ok (.ifCond .ne 9, 3) := by decide +kernel
theorem dX10_unstack_9 : decode cX10_unstack 9 = .ok (.aload_n 0, 1) := by decide +kernel
theorem dX10_unstack_10 : decode cX10_unstack 10 = .ok (.iconst (-1), 1) := by decide +kernel
theorem dX10_unstack_11 : decode cX10_unstack 11 = .ok (.invokevirtual 91, 3) := by decide +kernel
theorem dX10_unstack_14 : decode cX10_unstack 14 = .ok (.ireturn, 1) := by decide +kernel
theorem dX10_unstack_15 : decode cX10_unstack 15 = .ok (.aload_n 0, 1) := by decide +kernel
theorem dX10_unstack_16 : decode cX10_unstack 16 = .ok (.getfield 30, 3) := by decide +kernel
theorem dX10_unstack_19 : decode cX10_unstack 19 = .ok (.getfield 157, 3) := by decide +kernel
theorem dX10_unstack_22 : decode cX10_unstack 22 = .ok (.iload_n 1, 1) := by decide +kernel
theorem dX10_unstack_23 : decode cX10_unstack 23 = .ok (.iaload, 1) := by decide +kernel
theorem dX10_unstack_24 : decode cX10_unstack 24 = .ok (.istore_n 2, 1) := by decide +kernel
theorem dX10_unstack_25 : decode cX10_unstack 25 = .ok (.iload_n 2, 1) := by decide +kernel
theorem dX10_unstack_26 : decode cX10_unstack 26 = .ok (.aload_n 0, 1) := by decide +kernel
theorem dX10_unstack_27 : decode cX10_unstack 27 = .ok (.getfield 23, 3) := by decide +kernel
theorem dX10_unstack_30 : decode cX10_unstack 30 = .ok (.getfield 118, 3) := by decide +kernel
theorem dX10_unstack_33 : decode cX10_unstack 33 = .ok (.invokestatic 87, 3) := by decide +kernel
theorem dX10_unstack_36 : decode cX10_unstack 36 = .ok (.ifCond .ne 10, 3) := by decide +kernel
theorem dX10_unstack_39 : decode cX10_unstack 39 = .ok (.aload_n 0, 1) := by decide +kernel
theorem dX10_unstack_40 : decode cX10_unstack 40 = .ok (.bipush (-3), 2) := by decide +kernel
theorem dX10_unstack_42 : decode cX10_unstack 42 = .ok (.invokevirtual 91, 3) := by decide +kernel
theorem dX10_unstack_45 : decode cX10_unstack 45 = .ok (.ireturn, 1) := by decide +kernel
theorem dX10_unstack_46 : decode cX10_unstack 46 = .ok (.aload_n 0, 1) := by decide +kernel
theorem dX10_unstack_47 : decode cX10_unstack 47 = .ok (.iload_n 2, 1) := by decide +kernel
theorem dX10_unstack_48 : decode cX10_unstack 48 = .ok (.iload_n 1, 1) := by decide +kernel
theorem dX10_unstack_49 : decode cX10_unstack 49 = .ok (.invokevirtual 164, 3) := by decide +kernel
theorem dX10_unstack_52 : decode cX10_unstack 52 = .ok (.iload_n 2, 1) := by decide +kernel
theorem dX10_unstack_53 : decode cX10_unstack 53 = .ok (.ireturn, 1) := by decide +kernel
theorem dX10_fire_0 : decode cX10_fire 0 = .ok (.aload_n 0, 1) := by decide +kernel
theorem dX10_fire_1 : decode cX10_fire 1 = .ok (.getfield 30, 3) := by decide +kernel
theorem dX10_fire_4 : decode cX10_fire 4 = .ok (.getfield 134, 3) := by decide +kernel
theorem dX10_fire_7 : decode cX10_fire 7 = .ok (.ifCond .ne 10, 3) := by decide +kernel
theorem dX10_fire_10 : decode cX10_fire 10 = .ok (.aload_n 0, 1) := by decide +kernel
theorem dX10_fire_11 : decode cX10_fire 11 = .ok (.bipush (-3), 2) := by decide +kernel
theorem dX10_fire_13 : decode cX10_fire 13 = .ok (.invokevirtual 91, 3) := by decide +kernel
theorem dX10_fire_16 : decode cX10_fire 16 = .ok (.ireturn, 1) := by decide +kernel
theorem dX10_fire_17 : decode cX10_fire 17 = .ok (.aload_n 0, 1) := by decide +kernel
theorem dX10_fire_18 : decode cX10_fire 18 = .ok (.getfield 83, 3) := by decide +kernel
theorem dX10_fire_21 : decode cX10_fire 21 = .ok (.sipush 3998, 3) := by decide +kernel
theorem dX10_fire_24 : decode cX10_fire 24 = .ok (.if_icmp .le 10, 3) := by decide +kernel
theorem dX10_fire_27 : decode cX10_fire 27 = .ok (.aload_n 0, 1) := by decide +kernel
theorem dX10_fire_28 : decode cX10_fire 28 = .ok (.bipush (-6), 2) := by decide +kernel
theorem dX10_fire_30 : decode cX10_fire 30 = .ok (.invokevirtual 91, 3) := by decide +kernel
theorem dX10_fire_33 : decode cX10_fire 33 = .ok (.ireturn, 1) := by decide +kernel
theorem dX10_fire_34 : decode cX10_fire 34 = .ok (.aload_n 0, 1) := by decide +kernel
theorem dX10_fire_35 : decode cX10_fire 35 = .ok (.getfield 30, 3) := by decide +kernel
theorem dX10_fire_38 : decode cX10_fire 38 = .ok (.aload_n 0, 1) := by decide +kernel
theorem dX10_fire_39 : decode cX10_fire 39 = .ok (.getfield 30, 3) := by decide +kernel
theorem dX10_fire_42 : decode cX10_fire 42 = .ok (.getfield 134, 3) := by decide +kernel
theorem dX10_fire_45 : decode cX10_fire 45 = .ok (.invokevirtual 144, 3) := by decide +kernel
theorem dX10_fire_48 : decode cX10_fire 48 = .ok (.iconst 0, 1) := by decide +kernel
theorem dX10_fire_49 : decode cX10_fire 49 = .ok (.istore_n 1, 1) := by decide +kernel
theorem dX10_fire_50 : decode cX10_fire 50 = .ok (.iconst 0, 1) := by decide +kernel
theorem dX10_fire_51 : decode cX10_fire 51 = .ok (.istore_n 2, 1) := by decide +kernel
theorem dX10_fire_52 : decode cX10_fire 52 = .ok (.iload_n 2, 1) := by decide +kernel
theorem dX10_fire_53 : decode cX10_fire 53 = .ok (.bipush 12, 2) := by decide +kernel
theorem dX10_fire_55 : decode cX10_fire 55 = .ok (.if_icmp .ge 71, 3) := by decide +kernel
theorem dX10_fire_58 : decode cX10_fire 58 = .ok (.aload_n 0, 1) := by decide +kernel
theorem dX10_fire_59 : decode cX10_fire 59 = .ok (.getfield 30, 3) := by decide +kernel
theorem dX10_fire_62 : decode cX10_fire 62 = .ok (.getfield 157, 3) := by decide +kernel
theorem dX10_fire_65 : decode cX10_fire 65 = .ok (.iload_n 2, 1) := by decide +kernel
theorem dX10_fire_66 : decode cX10_fire 66 = .ok (.iaload, 1) := by decide +kernel
theorem dX10_fire_67 : decode cX10_fire 67 = .ok (.istore_n 3, 1) := by decide +kernel
theorem dX10_fire_68 : decode cX10_fire 68 = .ok (.iload_n 3, 1) := by decide +kernel
theorem dX10_fire_69 : decode cX10_fire 69 = .ok (.aload_n 0, 1) := by decide +kernel
theorem dX10_fire_70 : decode cX10_fire 70 = .ok (.getfield 23, 3) := by decide +kernel
theorem dX10_fire_73 : decode cX10_fire 73 = .ok (.getfield 118, 3) := by decide +kernel
theorem dX10_fire_76 : decode cX10_fire 76 = .ok (.invokestatic 87, 3) := by decide +kernel
theorem dX10_fire_79 : decode cX10_fire 79 = .ok (.ifCond .eq 41, 3) := by decide +kernel
theorem dX10_fire_82 : decode cX10_fire 82 = .ok (.aload_n 0, 1) := by decide +kernel
theorem dX10_fire_83 : decode cX10_fire 83 = .ok (.iload_n 3, 1) := by decide +kernel
theorem dX10_fire_84 : decode cX10_fire 84 = .ok (.iload_n 2, 1) := by decide +kernel
theorem dX10_fire_85 : decode cX10_fire 85 = .ok (.invokevirtual 164, 3) := by decide +kernel
theorem dX10_fire_88 : decode cX10_fire 88 = .ok (.iload_n 1, 1) := by decide +kernel
theorem dX10_fire_89 : decode cX10_fire 89 = .ok (.aload_n 0, 1) := by decide +kernel
theorem dX10_fire_90 : decode cX10_fire 90 = .ok (.getfield 23, 3) := by decide +kernel
theorem dX10_fire_93 : decode cX10_fire 93 = .ok (.iload_n 3, 1) := by decide +kernel
theorem dX10_fire_94 : decode cX10_fire 94 = .ok (.aload_n 0, 1) := by decide +kernel
theorem dX10_fire_95 : decode cX10_fire 95 = .ok (.getfield 30, 3) := by decide +kernel
theorem dX10_fire_98 : decode cX10_fire 98 = .ok (.getfield 147, 3) := by decide +kernel
theorem dX10_fire_101 : decode cX10_fire 101 = .ok (.iload_n 2, 1) := by decide +kernel
theorem dX10_fire_102 : decode cX10_fire 102 = .ok (.iaload, 1) := by decide +kernel
theorem dX10_fire_103 : decode cX10_fire 103 = .ok (.aload_n 0, 1) := by decide +kernel
theorem dX10_fire_104 : decode cX10_fire 104 = .ok (.getfield 16, 3) := by decide +kernel
theorem dX10_fire_107 : decode cX10_fire 107 = .ok (.invokevirtual 167, 3) := by decide +kernel
theorem dX10_fire_110 : decode cX10_fire 110 = .ok (.ifCond .eq 7, 3) := by decide +kernel
theorem dX10_fire_113 : decode cX10_fire 113 = .ok (.iconst 1, 1) := by decide +kernel
theorem dX10_fire_114 : decode cX10_fire 114 = .ok (.goto 4, 3) := by decide +kernel
theorem dX10_fire_117 : decode cX10_fire 117 = .ok (.iconst 0, 1) := by decide +kernel
theorem dX10_fire_118 : decode cX10_fire 118 = .ok (.iadd, 1) := by decide +kernel
theorem dX10_fire_119 : decode cX10_fire 119 = .ok (.istore_n 1, 1) := by decide +kernel
theorem dX10_fire_120 : decode cX10_fire 120 = .ok (.iinc 2 1, 3) := by decide +kernel
theorem dX10_fire_123 : decode cX10_fire 123 = .ok (.goto (-71), 3) := by decide +kernel
theorem dX10_fire_126 : decode cX10_fire 126 = .ok (.aload_n 0, 1) := by decide +kernel
theorem dX10_fire_127 : decode cX10_fire 127 = .ok (.getfield 30, 3) := by decide +kernel
theorem dX10_fire_130 : decode cX10_fire 130 = .ok (.invokevirtual 171, 3) := by decide +kernel
theorem dX10_fire_133 : decode cX10_fire 133 = .ok (.aload_n 0, 1) := by decide +kernel
theorem dX10_fire_134 : decode cX10_fire 134 = .ok (.iconst 2, 1) := by decide +kernel
theorem dX10_fire_135 : decode cX10_fire 135 = .ok (.invokevirtual 108, 3) := by decide +kernel
theorem dX10_fire_138 : decode cX10_fire 138 = .ok (.iload_n 1, 1) := by decide +kernel
theorem dX10_fire_139 : decode cX10_fire 139 = .ok (.ireturn, 1) := by decide +kernel
theorem dX10_want_0 : decode cX10_want 0 = .ok (.iload_n 1, 1) := by decide +kernel
theorem dX10_want_1 : decode cX10_want 1 = .ok (.aload_n 0, 1) := by decide +kernel
theorem dX10_want_2 : decode cX10_want 2 = .ok (.getfield 23, 3) := by decide +kernel
theorem dX10_want_5 : decode cX10_want 5 = .ok (.getfield 118, 3) := by decide +kernel
theorem dX10_want_8 : decode cX10_want 8 = .ok (.invokestatic 87, 3) := by decide +kernel
theorem dX10_want_11 : decode cX10_want 11 = .ok (.ifCond .ne 9, 3) := by decide +kernel
theorem dX10_want_14 : decode cX10_want 14 = .ok (.aload_n 0, 1) := by decide +kernel
theorem dX10_want_15 : decode cX10_want 15 = .ok (.iconst (-1), 1) := by decide +kernel
theorem dX10_want_16 : decode cX10_want 16 = .ok (.invokevirtual 91, 3) := by decide +kernel
theorem dX10_want_19 : decode cX10_want 19 = .ok (.ireturn, 1) := by decide +kernel
theorem dX10_want_20 : decode cX10_want 20 = .ok (.aload_n 0, 1) := by decide +kernel
theorem dX10_want_21 : decode cX10_want 21 = .ok (.iload_n 1, 1) := by decide +kernel
theorem dX10_want_22 : decode cX10_want 22 = .ok (.invokevirtual 153, 3) := by decide +kernel
theorem dX10_want_25 : decode cX10_want 25 = .ok (.ifCond .ne 10, 3) := by decide +kernel
theorem dX10_want_28 : decode cX10_want 28 = .ok (.aload_n 0, 1) := by decide +kernel
theorem dX10_want_29 : decode cX10_want 29 = .ok (.bipush (-3), 2) := by decide +kernel
theorem dX10_want_31 : decode cX10_want 31 = .ok (.invokevirtual 91, 3) := by decide +kernel
theorem dX10_want_34 : decode cX10_want 34 = .ok (.ireturn, 1) := by decide +kernel
theorem dX10_want_35 : decode cX10_want 35 = .ok (.iload_n 2, 1) := by decide +kernel
theorem dX10_want_36 : decode cX10_want 36 = .ok (.iconst 1, 1) := by decide +kernel
theorem dX10_want_37 : decode cX10_want 37 = .ok (.if_icmp .ge 10, 3) := by decide +kernel
theorem dX10_want_40 : decode cX10_want 40 = .ok (.aload_n 0, 1) := by decide +kernel
theorem dX10_want_41 : decode cX10_want 41 = .ok (.bipush (-4), 2) := by decide +kernel
theorem dX10_want_43 : decode cX10_want 43 = .ok (.invokevirtual 91, 3) := by decide +kernel
theorem dX10_want_46 : decode cX10_want 46 = .ok (.ireturn, 1) := by decide +kernel
theorem dX10_want_47 : decode cX10_want 47 = .ok (.iload_n 2, 1) := by decide +kernel
theorem dX10_want_48 : decode cX10_want 48 = .ok (.sipush 999, 3) := by decide +kernel
theorem dX10_want_51 : decode cX10_want 51 = .ok (.if_icmp .gt 15, 3) := by decide +kernel
theorem dX10_want_54 : decode cX10_want 54 = .ok (.aload_n 0, 1) := by decide +kernel
theorem dX10_want_55 : decode cX10_want 55 = .ok (.getfield 37, 3) := by decide +kernel
theorem dX10_want_58 : decode cX10_want 58 = .ok (.getfield 174, 3) := by decide +kernel
theorem dX10_want_61 : decode cX10_want 61 = .ok (.bipush 8, 2) := by decide +kernel
theorem dX10_want_63 : decode cX10_want 63 = .ok (.if_icmp .lt 10, 3) := by decide +kernel
theorem dX10_want_66 : decode cX10_want 66 = .ok (.aload_n 0, 1) := by decide +kernel
theorem dX10_want_67 : decode cX10_want 67 = .ok (.bipush (-6), 2) := by decide +kernel
theorem dX10_want_69 : decode cX10_want 69 = .ok (.invokevirtual 91, 3) := by decide +kernel
theorem dX10_want_72 : decode cX10_want 72 = .ok (.ireturn, 1) := by decide +kernel
theorem dX10_want_73 : decode cX10_want 73 = .ok (.aload_n 0, 1) := by decide +kernel
theorem dX10_want_74 : decode cX10_want 74 = .ok (.getfield 37, 3) := by decide +kernel
theorem dX10_want_77 : decode cX10_want 77 = .ok (.iload_n 1, 1) := by decide +kernel
theorem dX10_want_78 : decode cX10_want 78 = .ok (.iload_n 2, 1) := by decide +kernel
theorem dX10_want_79 : decode cX10_want 79 = .ok (.invokevirtual 177, 3) := by decide +kernel
theorem dX10_want_82 : decode cX10_want 82 = .ok (.ireturn, 1) := by decide +kernel
theorem dX10_best_0 : decode cX10_best 0 = .ok (.aload_n 0, 1) := by decide +kernel
theorem dX10_best_1 : decode cX10_best 1 = .ok (.invokevirtual 181, 3) := by decide +kernel
theorem dX10_best_4 : decode cX10_best 4 = .ok (.aload_n 0, 1) := by decide +kernel
theorem dX10_best_5 : decode cX10_best 5 = .ok (.getfield 37, 3) := by decide +kernel
theorem dX10_best_8 : decode cX10_best 8 = .ok (.invokevirtual 184, 3) := by decide +kernel
theorem dX10_best_11 : decode cX10_best 11 = .ok (.ireturn, 1) := by decide +kernel
theorem dX10_bestPlace_0 : decode cX10_bestPlace 0 = .ok (.iload_n 1, 1) := by decide +kernel
theorem dX10_bestPlace_1 : decode cX10_bestPlace 1 = .ok (.aload_n 0, 1) := by decide +kernel
theorem dX10_bestPlace_2 : decode cX10_bestPlace 2 = .ok (.getfield 37, 3) := by decide +kernel
theorem dX10_bestPlace_5 : decode cX10_bestPlace 5 = .ok (.getfield 174, 3) := by decide +kernel
theorem dX10_bestPlace_8 : decode cX10_bestPlace 8 = .ok (.invokestatic 87, 3) := by decide +kernel
theorem dX10_bestPlace_11 : decode cX10_bestPlace 11 = .ok (.ifCond .ne 9, 3) := by decide +kernel
theorem dX10_bestPlace_14 : decode cX10_bestPlace 14 = .ok (.aload_n 0, 1) := by decide +kernel
theorem dX10_bestPlace_15 : decode cX10_bestPlace 15 = .ok (.iconst (-1), 1) := by decide +kernel
theorem dX10_bestPlace_16 : decode cX10_bestPlace 16 = .ok (.invokevirtual 91, 3) := by decide +kernel
theorem dX10_bestPlace_19 : decode cX10_bestPlace 19 = .ok (.ireturn, 1) := by decide +kernel
theorem dX10_bestPlace_20 : decode cX10_bestPlace 20 = .ok (.aload_n 0, 1) := by decide +kernel
theorem dX10_bestPlace_21 : decode cX10_bestPlace 21 = .ok (.invokevirtual 181, 3) := by decide +kernel
theorem dX10_bestPlace_24 : decode cX10_bestPlace 24 = .ok (.aload_n 0, 1) := by decide +kernel
theorem dX10_bestPlace_25 : decode cX10_bestPlace 25 = .ok (.getfield 37, 3) := by decide +kernel
theorem dX10_bestPlace_28 : decode cX10_bestPlace 28 = .ok (.invokevirtual 187, 3) := by decide +kernel
theorem dX10_bestPlace_31 : decode cX10_bestPlace 31 = .ok (.aload_n 0, 1) := by decide +kernel
theorem dX10_bestPlace_32 : decode cX10_bestPlace 32 = .ok (.getfield 37, 3) := by decide +kernel
theorem dX10_bestPlace_35 : decode cX10_bestPlace 35 = .ok (.getfield 190, 3) := by decide +kernel
theorem dX10_bestPlace_38 : decode cX10_bestPlace 38 = .ok (.iload_n 1, 1) := by decide +kernel
theorem dX10_bestPlace_39 : decode cX10_bestPlace 39 = .ok (.iaload, 1) := by decide +kernel
theorem dX10_bestPlace_40 : decode cX10_bestPlace 40 = .ok (.ireturn, 1) := by decide +kernel
theorem dX10_lay_0 : decode cX10_lay 0 = .ok (.aload_n 0, 1) := by decide +kernel
theorem dX10_lay_1 : decode cX10_lay 1 = .ok (.invokevirtual 181, 3) := by decide +kernel
theorem dX10_lay_4 : decode cX10_lay 4 = .ok (.aload_n 0, 1) := by decide +kernel
theorem dX10_lay_5 : decode cX10_lay 5 = .ok (.getfield 37, 3) := by decide +kernel
theorem dX10_lay_8 : decode cX10_lay 8 = .ok (.invokevirtual 187, 3) := by decide +kernel
theorem dX10_lay_11 : decode cX10_lay 11 = .ok (.iconst 0, 1) := by decide +kernel
theorem dX10_lay_12 : decode cX10_lay 12 = .ok (.istore_n 1, 1) := by decide +kernel
theorem dX10_lay_13 : decode cX10_lay 13 = .ok (.iconst 0, 1) := by decide +kernel
theorem dX10_lay_14 : decode cX10_lay 14 = .ok (.istore_n 2, 1) := by decide +kernel
theorem dX10_lay_15 : decode cX10_lay 15 = .ok (.iload_n 2, 1) := by decide +kernel
theorem dX10_lay_16 : decode cX10_lay 16 = .ok (.aload_n 0, 1) := by decide +kernel
theorem dX10_lay_17 : decode cX10_lay 17 = .ok (.getfield 37, 3) := by decide +kernel
theorem dX10_lay_20 : decode cX10_lay 20 = .ok (.getfield 174, 3) := by decide +kernel
theorem dX10_lay_23 : decode cX10_lay 23 = .ok (.if_icmp .ge 45, 3) := by decide +kernel
theorem dX10_lay_26 : decode cX10_lay 26 = .ok (.aload_n 0, 1) := by decide +kernel
theorem dX10_lay_27 : decode cX10_lay 27 = .ok (.getfield 37, 3) := by decide +kernel
theorem dX10_lay_30 : decode cX10_lay 30 = .ok (.getfield 190, 3) := by decide +kernel
theorem dX10_lay_33 : decode cX10_lay 33 = .ok (.iload_n 2, 1) := by decide +kernel
theorem dX10_lay_34 : decode cX10_lay 34 = .ok (.iaload, 1) := by decide +kernel
theorem dX10_lay_35 : decode cX10_lay 35 = .ok (.istore_n 3, 1) := by decide +kernel
theorem dX10_lay_36 : decode cX10_lay 36 = .ok (.iload_n 3, 1) := by decide +kernel
theorem dX10_lay_37 : decode cX10_lay 37 = .ok (.bipush 12, 2) := by decide +kernel
theorem dX10_lay_39 : decode cX10_lay 39 = .ok (.invokestatic 87, 3) := by decide +kernel
theorem dX10_lay_42 : decode cX10_lay 42 = .ok (.ifCond .eq 20, 3) := by decide +kernel
theorem dX10_lay_45 : decode cX10_lay 45 = .ok (.aload_n 0, 1) := by decide +kernel
theorem dX10_lay_46 : decode cX10_lay 46 = .ok (.aload_n 0, 1) := by decide +kernel
theorem dX10_lay_47 : decode cX10_lay 47 = .ok (.getfield 37, 3) := by decide +kernel
theorem dX10_lay_50 : decode cX10_lay 50 = .ok (.getfield 193, 3) := by decide +kernel
theorem dX10_lay_53 : decode cX10_lay 53 = .ok (.iload_n 2, 1) := by decide +kernel
theorem dX10_lay_54 : decode cX10_lay 54 = .ok (.iaload, 1) := by decide +kernel
theorem dX10_lay_55 : decode cX10_lay 55 = .ok (.iload_n 3, 1) := by decide +kernel
theorem dX10_lay_56 : decode cX10_lay 56 = .ok (.invokevirtual 160, 3) := by decide +kernel
theorem dX10_lay_59 : decode cX10_lay 59 = .ok (.iinc 1 1, 3) := by decide +kernel
theorem dX10_lay_62 : decode cX10_lay 62 = .ok (.iinc 2 1, 3) := by decide +kernel
theorem dX10_lay_65 : decode cX10_lay 65 = .ok (.goto (-50), 3) := by decide +kernel
theorem dX10_lay_68 : decode cX10_lay 68 = .ok (.aload_n 0, 1) := by decide +kernel
theorem dX10_lay_69 : decode cX10_lay 69 = .ok (.getfield 37, 3) := by decide +kernel
theorem dX10_lay_72 : decode cX10_lay 72 = .ok (.invokevirtual 196, 3) := by decide +kernel
theorem dX10_lay_75 : decode cX10_lay 75 = .ok (.iload_n 1, 1) := by decide +kernel
theorem dX10_lay_76 : decode cX10_lay 76 = .ok (.ireturn, 1) := by decide +kernel
theorem dX10_colour_0 : decode cX10_colour 0 = .ok (.iload_n 1, 1) := by decide +kernel
theorem dX10_colour_1 : decode cX10_colour 1 = .ok (.bipush 12, 2) := by decide +kernel
theorem dX10_colour_3 : decode cX10_colour 3 = .ok (.invokestatic 87, 3) := by decide +kernel
theorem dX10_colour_6 : decode cX10_colour 6 = .ok (.ifCond .ne 9, 3) := by decide +kernel
theorem dX10_colour_9 : decode cX10_colour 9 = .ok (.aload_n 0, 1) := by decide +kernel
theorem dX10_colour_10 : decode cX10_colour 10 = .ok (.iconst (-1), 1) := by decide +kernel
theorem dX10_colour_11 : decode cX10_colour 11 = .ok (.invokevirtual 91, 3) := by decide +kernel
theorem dX10_colour_14 : decode cX10_colour 14 = .ok (.ireturn, 1) := by decide +kernel
theorem dX10_colour_15 : decode cX10_colour 15 = .ok (.iload_n 2, 1) := by decide +kernel
theorem dX10_colour_16 : decode cX10_colour 16 = .ok (.ifCond .lt 8, 3) := by decide +kernel
theorem dX10_colour_19 : decode cX10_colour 19 = .ok (.iload_n 3, 1) := by decide +kernel
theorem dX10_colour_20 : decode cX10_colour 20 = .ok (.iload_n 2, 1) := by decide +kernel
theorem dX10_colour_21 : decode cX10_colour 21 = .ok (.if_icmp .ge 10, 3) := by decide +kernel
theorem dX10_colour_24 : decode cX10_colour 24 = .ok (.aload_n 0, 1) := by decide +kernel
theorem dX10_colour_25 : decode cX10_colour 25 = .ok (.bipush (-4), 2) := by decide +kernel
theorem dX10_colour_27 : decode cX10_colour 27 = .ok (.invokevirtual 91, 3) := by decide +kernel
theorem dX10_colour_30 : decode cX10_colour 30 = .ok (.ireturn, 1) := by decide +kernel
theorem dX10_colour_31 : decode cX10_colour 31 = .ok (.iload_n 3, 1) := by decide +kernel
theorem dX10_colour_32 : decode cX10_colour 32 = .ok (.sipush 1000, 3) := by decide +kernel
theorem dX10_colour_35 : decode cX10_colour 35 = .ok (.if_icmp .le 10, 3) := by decide +kernel
theorem dX10_colour_38 : decode cX10_colour 38 = .ok (.aload_n 0, 1) := by decide +kernel
theorem dX10_colour_39 : decode cX10_colour 39 = .ok (.bipush (-6), 2) := by decide +kernel
theorem dX10_colour_41 : decode cX10_colour 41 = .ok (.invokevirtual 91, 3) := by decide +kernel
theorem dX10_colour_44 : decode cX10_colour 44 = .ok (.ireturn, 1) := by decide +kernel
theorem dX10_colour_45 : decode cX10_colour 45 = .ok (.aload_n 0, 1) := by decide +kernel
theorem dX10_colour_46 : decode cX10_colour 46 = .ok (.getfield 44, 3) := by decide +kernel
theorem dX10_colour_49 : decode cX10_colour 49 = .ok (.getfield 199, 3) := by decide +kernel
theorem dX10_colour_52 : decode cX10_colour 52 = .ok (.iload_n 1, 1) := by decide +kernel
theorem dX10_colour_53 : decode cX10_colour 53 = .ok (.iload_n 2, 1) := by decide +kernel
theorem dX10_colour_54 : decode cX10_colour 54 = .ok (.iastore, 1) := by decide +kernel
theorem dX10_colour_55 : decode cX10_colour 55 = .ok (.aload_n 0, 1) := by decide +kernel
theorem dX10_colour_56 : decode cX10_colour 56 = .ok (.getfield 44, 3) := by decide +kernel
theorem dX10_colour_59 : decode cX10_colour 59 = .ok (.getfield 202, 3) := by decide +kernel
theorem dX10_colour_62 : decode cX10_colour 62 = .ok (.iload_n 1, 1) := by decide +kernel
theorem dX10_colour_63 : decode cX10_colour 63 = .ok (.iload_n 3, 1) := by decide +kernel
theorem dX10_colour_64 : decode cX10_colour 64 = .ok (.iastore, 1) := by decide +kernel
theorem dX10_colour_65 : decode cX10_colour 65 = .ok (.iconst 1, 1) := by decide +kernel
theorem dX10_colour_66 : decode cX10_colour 66 = .ok (.ireturn, 1) := by decide +kernel
theorem dX10_fires_0 : decode cX10_fires 0 = .ok (.iload_n 1, 1) := by decide +kernel
theorem dX10_fires_1 : decode cX10_fires 1 = .ok (.invokestatic 205, 3) := by decide +kernel
theorem dX10_fires_4 : decode cX10_fires 4 = .ok (.ifCond .ne 9, 3) := by decide +kernel
theorem dX10_fires_7 : decode cX10_fires 7 = .ok (.aload_n 0, 1) := by decide +kernel
theorem dX10_fires_8 : decode cX10_fires 8 = .ok (.iconst (-1), 1) := by decide +kernel
theorem dX10_fires_9 : decode cX10_fires 9 = .ok (.invokevirtual 91, 3) := by decide +kernel
theorem dX10_fires_12 : decode cX10_fires 12 = .ok (.ireturn, 1) := by decide +kernel
theorem dX10_fires_13 : decode cX10_fires 13 = .ok (.aload_n 0, 1) := by decide +kernel
theorem dX10_fires_14 : decode cX10_fires 14 = .ok (.getfield 44, 3) := by decide +kernel
theorem dX10_fires_17 : decode cX10_fires 17 = .ok (.iload_n 1, 1) := by decide +kernel
theorem dX10_fires_18 : decode cX10_fires 18 = .ok (.invokevirtual 208, 3) := by decide +kernel
theorem dX10_fires_21 : decode cX10_fires 21 = .ok (.ireturn, 1) := by decide +kernel
theorem dX10_fireHeat_0 : decode cX10_fireHeat 0 = .ok (.iload_n 1, 1) := by decide +kernel
theorem dX10_fireHeat_1 : decode cX10_fireHeat 1 = .ok (.invokestatic 205, 3) := by decide +kernel
theorem dX10_fireHeat_4 : decode cX10_fireHeat 4 = .ok (.ifCond .eq 18, 3) := by decide +kernel
theorem dX10_fireHeat_7 : decode cX10_fireHeat 7 = .ok (.iload_n 2, 1) := by decide +kernel
theorem dX10_fireHeat_8 : decode cX10_fireHeat 8 = .ok (.aload_n 0, 1) := by decide +kernel
theorem dX10_fireHeat_9 : decode cX10_fireHeat 9 = .ok (.getfield 44, 3) := by decide +kernel
theorem dX10_fireHeat_12 : decode cX10_fireHeat 12 = .ok (.iload_n 1, 1) := by decide +kernel
theorem dX10_fireHeat_13 : decode cX10_fireHeat 13 = .ok (.invokevirtual 208, 3) := by decide +kernel
theorem dX10_fireHeat_16 : decode cX10_fireHeat 16 = .ok (.invokestatic 87, 3) := by decide +kernel
theorem dX10_fireHeat_19 : decode cX10_fireHeat 19 = .ok (.ifCond .ne 9, 3) := by decide +kernel
theorem dX10_fireHeat_22 : decode cX10_fireHeat 22 = .ok (.aload_n 0, 1) := by decide +kernel
theorem dX10_fireHeat_23 : decode cX10_fireHeat 23 = .ok (.iconst (-1), 1) := by decide +kernel
theorem dX10_fireHeat_24 : decode cX10_fireHeat 24 = .ok (.invokevirtual 91, 3) := by decide +kernel
theorem dX10_fireHeat_27 : decode cX10_fireHeat 27 = .ok (.ireturn, 1) := by decide +kernel
theorem dX10_fireHeat_28 : decode cX10_fireHeat 28 = .ok (.aload_n 0, 1) := by decide +kernel
theorem dX10_fireHeat_29 : decode cX10_fireHeat 29 = .ok (.getfield 44, 3) := by decide +kernel
theorem dX10_fireHeat_32 : decode cX10_fireHeat 32 = .ok (.getfield 211, 3) := by decide +kernel
theorem dX10_fireHeat_35 : decode cX10_fireHeat 35 = .ok (.iload_n 2, 1) := by decide +kernel
theorem dX10_fireHeat_36 : decode cX10_fireHeat 36 = .ok (.iaload, 1) := by decide +kernel
theorem dX10_fireHeat_37 : decode cX10_fireHeat 37 = .ok (.ireturn, 1) := by decide +kernel
theorem dX10_skill_0 : decode cX10_skill 0 = .ok (.iload_n 1, 1) := by decide +kernel
theorem dX10_skill_1 : decode cX10_skill 1 = .ok (.iconst 3, 1) := by decide +kernel
theorem dX10_skill_2 : decode cX10_skill 2 = .ok (.invokestatic 87, 3) := by decide +kernel
theorem dX10_skill_5 : decode cX10_skill 5 = .ok (.ifCond .ne 9, 3) := by decide +kernel
theorem dX10_skill_8 : decode cX10_skill 8 = .ok (.aload_n 0, 1) := by decide +kernel
theorem dX10_skill_9 : decode cX10_skill 9 = .ok (.iconst (-1), 1) := by decide +kernel
theorem dX10_skill_10 : decode cX10_skill 10 = .ok (.invokevirtual 91, 3) := by decide +kernel
theorem dX10_skill_13 : decode cX10_skill 13 = .ok (.ireturn, 1) := by decide +kernel
theorem dX10_skill_14 : decode cX10_skill 14 = .ok (.iload_n 2, 1) := by decide +kernel
theorem dX10_skill_15 : decode cX10_skill 15 = .ok (.iconst 1, 1) := by decide +kernel
theorem dX10_skill_16 : decode cX10_skill 16 = .ok (.if_icmp .ge 10, 3) := by decide +kernel
theorem dX10_skill_19 : decode cX10_skill 19 = .ok (.aload_n 0, 1) := by decide +kernel
theorem dX10_skill_20 : decode cX10_skill 20 = .ok (.bipush (-4), 2) := by decide +kernel
theorem dX10_skill_22 : decode cX10_skill 22 = .ok (.invokevirtual 91, 3) := by decide +kernel
theorem dX10_skill_25 : decode cX10_skill 25 = .ok (.ireturn, 1) := by decide +kernel
theorem dX10_skill_26 : decode cX10_skill 26 = .ok (.iload_n 2, 1) := by decide +kernel
theorem dX10_skill_27 : decode cX10_skill 27 = .ok (.bipush 20, 2) := by decide +kernel
theorem dX10_skill_29 : decode cX10_skill 29 = .ok (.if_icmp .le 10, 3) := by decide +kernel
theorem dX10_skill_32 : decode cX10_skill 32 = .ok (.aload_n 0, 1) := by decide +kernel
theorem dX10_skill_33 : decode cX10_skill 33 = .ok (.bipush (-6), 2) := by decide +kernel
theorem dX10_skill_35 : decode cX10_skill 35 = .ok (.invokevirtual 91, 3) := by decide +kernel
theorem dX10_skill_38 : decode cX10_skill 38 = .ok (.ireturn, 1) := by decide +kernel
theorem dX10_skill_39 : decode cX10_skill 39 = .ok (.aload_n 0, 1) := by decide +kernel
theorem dX10_skill_40 : decode cX10_skill 40 = .ok (.getfield 51, 3) := by decide +kernel
theorem dX10_skill_43 : decode cX10_skill 43 = .ok (.iload_n 1, 1) := by decide +kernel
theorem dX10_skill_44 : decode cX10_skill 44 = .ok (.iload_n 2, 1) := by decide +kernel
theorem dX10_skill_45 : decode cX10_skill 45 = .ok (.invokevirtual 214, 3) := by decide +kernel
theorem dX10_skill_48 : decode cX10_skill 48 = .ok (.ireturn, 1) := by decide +kernel
theorem dX10_job_0 : decode cX10_job 0 = .ok (.iload_n 1, 1) := by decide +kernel
theorem dX10_job_1 : decode cX10_job 1 = .ok (.iconst 1, 1) := by decide +kernel
theorem dX10_job_2 : decode cX10_job 2 = .ok (.if_icmp .ge 10, 3) := by decide +kernel
theorem dX10_job_5 : decode cX10_job 5 = .ok (.aload_n 0, 1) := by decide +kernel
theorem dX10_job_6 : decode cX10_job 6 = .ok (.bipush (-4), 2) := by decide +kernel
theorem dX10_job_8 : decode cX10_job 8 = .ok (.invokevirtual 91, 3) := by decide +kernel
theorem dX10_job_11 : decode cX10_job 11 = .ok (.ireturn, 1) := by decide +kernel
theorem dX10_job_12 : decode cX10_job 12 = .ok (.iload_n 1, 1) := by decide +kernel
theorem dX10_job_13 : decode cX10_job 13 = .ok (.sipush 500, 3) := by decide +kernel
theorem dX10_job_16 : decode cX10_job 16 = .ok (.if_icmp .gt 15, 3) := by decide +kernel
theorem dX10_job_19 : decode cX10_job 19 = .ok (.aload_n 0, 1) := by decide +kernel
theorem dX10_job_20 : decode cX10_job 20 = .ok (.getfield 51, 3) := by decide +kernel
theorem dX10_job_23 : decode cX10_job 23 = .ok (.getfield 217, 3) := by decide +kernel
theorem dX10_job_26 : decode cX10_job 26 = .ok (.bipush 8, 2) := by decide +kernel
theorem dX10_job_28 : decode cX10_job 28 = .ok (.if_icmp .lt 10, 3) := by decide +kernel
theorem dX10_job_31 : decode cX10_job 31 = .ok (.aload_n 0, 1) := by decide +kernel
theorem dX10_job_32 : decode cX10_job 32 = .ok (.bipush (-6), 2) := by decide +kernel
theorem dX10_job_34 : decode cX10_job 34 = .ok (.invokevirtual 91, 3) := by decide +kernel
theorem dX10_job_37 : decode cX10_job 37 = .ok (.ireturn, 1) := by decide +kernel
theorem dX10_job_38 : decode cX10_job 38 = .ok (.aload_n 0, 1) := by decide +kernel
theorem dX10_job_39 : decode cX10_job 39 = .ok (.getfield 51, 3) := by decide +kernel
theorem dX10_job_42 : decode cX10_job 42 = .ok (.iload_n 1, 1) := by decide +kernel
theorem dX10_job_43 : decode cX10_job 43 = .ok (.invokevirtual 220, 3) := by decide +kernel
theorem dX10_job_46 : decode cX10_job 46 = .ok (.ireturn, 1) := by decide +kernel
theorem dX10_least_0 : decode cX10_least 0 = .ok (.aload_n 0, 1) := by decide +kernel
theorem dX10_least_1 : decode cX10_least 1 = .ok (.getfield 51, 3) := by decide +kernel
theorem dX10_least_4 : decode cX10_least 4 = .ok (.invokevirtual 223, 3) := by decide +kernel
theorem dX10_least_7 : decode cX10_least 7 = .ok (.aload_n 0, 1) := by decide +kernel
theorem dX10_least_8 : decode cX10_least 8 = .ok (.getfield 51, 3) := by decide +kernel
theorem dX10_least_11 : decode cX10_least 11 = .ok (.getfield 226, 3) := by decide +kernel
theorem dX10_least_14 : decode cX10_least 14 = .ok (.ireturn, 1) := by decide +kernel
theorem dX10_painter_0 : decode cX10_painter 0 = .ok (.iload_n 1, 1) := by decide +kernel
theorem dX10_painter_1 : decode cX10_painter 1 = .ok (.aload_n 0, 1) := by decide +kernel
theorem dX10_painter_2 : decode cX10_painter 2 = .ok (.getfield 51, 3) := by decide +kernel
theorem dX10_painter_5 : decode cX10_painter 5 = .ok (.getfield 217, 3) := by decide +kernel
theorem dX10_painter_8 : decode cX10_painter 8 = .ok (.invokestatic 87, 3) := by decide +kernel
theorem dX10_painter_11 : decode cX10_painter 11 = .ok (.ifCond .ne 6, 3) := by decide +kernel
theorem dX10_painter_14 : decode cX10_painter 14 = .ok (.bipush (-9), 2) := by decide +kernel
theorem dX10_painter_16 : decode cX10_painter 16 = .ok (.ireturn, 1) := by decide +kernel
theorem dX10_painter_17 : decode cX10_painter 17 = .ok (.aload_n 0, 1) := by decide +kernel
theorem dX10_painter_18 : decode cX10_painter 18 = .ok (.getfield 51, 3) := by decide +kernel
theorem dX10_painter_21 : decode cX10_painter 21 = .ok (.invokevirtual 223, 3) := by decide +kernel
theorem dX10_painter_24 : decode cX10_painter 24 = .ok (.aload_n 0, 1) := by decide +kernel
theorem dX10_painter_25 : decode cX10_painter 25 = .ok (.getfield 51, 3) := by decide +kernel
theorem dX10_painter_28 : decode cX10_painter 28 = .ok (.getfield 229, 3) := by decide +kernel
theorem dX10_painter_31 : decode cX10_painter 31 = .ok (.iload_n 1, 1) := by decide +kernel
theorem dX10_painter_32 : decode cX10_painter 32 = .ok (.iaload, 1) := by decide +kernel
theorem dX10_painter_33 : decode cX10_painter 33 = .ok (.ireturn, 1) := by decide +kernel
theorem dX10_paint_0 : decode cX10_paint 0 = .ok (.iload_n 1, 1) := by decide +kernel
theorem dX10_paint_1 : decode cX10_paint 1 = .ok (.aload_n 0, 1) := by decide +kernel
theorem dX10_paint_2 : decode cX10_paint 2 = .ok (.getfield 23, 3) := by decide +kernel
theorem dX10_paint_5 : decode cX10_paint 5 = .ok (.getfield 118, 3) := by decide +kernel
theorem dX10_paint_8 : decode cX10_paint 8 = .ok (.invokestatic 87, 3) := by decide +kernel
theorem dX10_paint_11 : decode cX10_paint 11 = .ok (.ifCond .ne 9, 3) := by decide +kernel
theorem dX10_paint_14 : decode cX10_paint 14 = .ok (.aload_n 0, 1) := by decide +kernel
theorem dX10_paint_15 : decode cX10_paint 15 = .ok (.iconst (-1), 1) := by decide +kernel
theorem dX10_paint_16 : decode cX10_paint 16 = .ok (.invokevirtual 91, 3) := by decide +kernel
theorem dX10_paint_19 : decode cX10_paint 19 = .ok (.ireturn, 1) := by decide +kernel
theorem dX10_paint_20 : decode cX10_paint 20 = .ok (.aload_n 0, 1) := by decide +kernel
theorem dX10_paint_21 : decode cX10_paint 21 = .ok (.getfield 23, 3) := by decide +kernel
theorem dX10_paint_24 : decode cX10_paint 24 = .ok (.getfield 232, 3) := by decide +kernel
theorem dX10_paint_27 : decode cX10_paint 27 = .ok (.iload_n 1, 1) := by decide +kernel
theorem dX10_paint_28 : decode cX10_paint 28 = .ok (.iaload, 1) := by decide +kernel
theorem dX10_paint_29 : decode cX10_paint 29 = .ok (.iconst 1, 1) := by decide +kernel
theorem dX10_paint_30 : decode cX10_paint 30 = .ok (.if_icmp .eq 10, 3) := by decide +kernel
theorem dX10_paint_33 : decode cX10_paint 33 = .ok (.aload_n 0, 1) := by decide +kernel
theorem dX10_paint_34 : decode cX10_paint 34 = .ok (.bipush (-3), 2) := by decide +kernel
theorem dX10_paint_36 : decode cX10_paint 36 = .ok (.invokevirtual 91, 3) := by decide +kernel
theorem dX10_paint_39 : decode cX10_paint 39 = .ok (.ireturn, 1) := by decide +kernel
theorem dX10_paint_40 : decode cX10_paint 40 = .ok (.aload_n 0, 1) := by decide +kernel
theorem dX10_paint_41 : decode cX10_paint 41 = .ok (.getfield 23, 3) := by decide +kernel
theorem dX10_paint_44 : decode cX10_paint 44 = .ok (.getfield 232, 3) := by decide +kernel
theorem dX10_paint_47 : decode cX10_paint 47 = .ok (.iload_n 1, 1) := by decide +kernel
theorem dX10_paint_48 : decode cX10_paint 48 = .ok (.iconst 2, 1) := by decide +kernel
theorem dX10_paint_49 : decode cX10_paint 49 = .ok (.iastore, 1) := by decide +kernel
theorem dX10_paint_50 : decode cX10_paint 50 = .ok (.iconst 1, 1) := by decide +kernel
theorem dX10_paint_51 : decode cX10_paint 51 = .ok (.ireturn, 1) := by decide +kernel
theorem dX10_service_0 : decode cX10_service 0 = .ok (.iload_n 1, 1) := by decide +kernel
theorem dX10_service_1 : decode cX10_service 1 = .ok (.iload_n 2, 1) := by decide +kernel
theorem dX10_service_2 : decode cX10_service 2 = .ok (.iload_n 3, 1) := by decide +kernel
theorem dX10_service_3 : decode cX10_service 3 = .ok (.invokestatic 235, 3) := by decide +kernel
theorem dX10_service_6 : decode cX10_service 6 = .ok (.istore 4, 2) := by decide +kernel
theorem dX10_service_8 : decode cX10_service 8 = .ok (.iload 4, 2) := by decide +kernel
theorem dX10_service_10 : decode cX10_service 10 = .ok (.ifCond .eq 10, 3) := by decide +kernel
theorem dX10_service_13 : decode cX10_service 13 = .ok (.aload_n 0, 1) := by decide +kernel
theorem dX10_service_14 : decode cX10_service 14 = .ok (.iload 4, 2) := by decide +kernel
theorem dX10_service_16 : decode cX10_service 16 = .ok (.invokevirtual 91, 3) := by decide +kernel
theorem dX10_service_19 : decode cX10_service 19 = .ok (.ireturn, 1) := by decide +kernel
theorem dX10_service_20 : decode cX10_service 20 = .ok (.aload_n 0, 1) := by decide +kernel
theorem dX10_service_21 : decode cX10_service 21 = .ok (.getfield 58, 3) := by decide +kernel
theorem dX10_service_24 : decode cX10_service 24 = .ok (.iload_n 1, 1) := by decide +kernel
theorem dX10_service_25 : decode cX10_service 25 = .ok (.iload_n 2, 1) := by decide +kernel
theorem dX10_service_26 : decode cX10_service 26 = .ok (.iload_n 3, 1) := by decide +kernel
theorem dX10_service_27 : decode cX10_service 27 = .ok (.aload_n 0, 1) := by decide +kernel
theorem dX10_service_28 : decode cX10_service 28 = .ok (.getfield 23, 3) := by decide +kernel
theorem dX10_service_31 : decode cX10_service 31 = .ok (.invokevirtual 238, 3) := by decide +kernel
theorem dX10_service_34 : decode cX10_service 34 = .ok (.ifCond .eq 13, 3) := by decide +kernel
theorem dX10_service_37 : decode cX10_service 37 = .ok (.aload_n 0, 1) := by decide +kernel
theorem dX10_service_38 : decode cX10_service 38 = .ok (.getfield 58, 3) := by decide +kernel
theorem dX10_service_41 : decode cX10_service 41 = .ok (.invokevirtual 242, 3) := by decide +kernel
theorem dX10_service_44 : decode cX10_service 44 = .ok (.goto 5, 3) := by decide +kernel
theorem dX10_service_47 : decode cX10_service 47 = .ok (.bipush (-9), 2) := by decide +kernel
theorem dX10_service_49 : decode cX10_service 49 = .ok (.ireturn, 1) := by decide +kernel
theorem dX10_matched_0 : decode cX10_matched 0 = .ok (.iload_n 1, 1) := by decide +kernel
theorem dX10_matched_1 : decode cX10_matched 1 = .ok (.iload_n 2, 1) := by decide +kernel
theorem dX10_matched_2 : decode cX10_matched 2 = .ok (.iload_n 3, 1) := by decide +kernel
theorem dX10_matched_3 : decode cX10_matched 3 = .ok (.invokestatic 235, 3) := by decide +kernel
theorem dX10_matched_6 : decode cX10_matched 6 = .ok (.istore 5, 2) := by decide +kernel
theorem dX10_matched_8 : decode cX10_matched 8 = .ok (.iload 5, 2) := by decide +kernel
theorem dX10_matched_10 : decode cX10_matched 10 = .ok (.ifCond .eq 10, 3) := by decide +kernel
theorem dX10_matched_13 : decode cX10_matched 13 = .ok (.aload_n 0, 1) := by decide +kernel
theorem dX10_matched_14 : decode cX10_matched 14 = .ok (.iload 5, 2) := by decide +kernel
theorem dX10_matched_16 : decode cX10_matched 16 = .ok (.invokevirtual 91, 3) := by decide +kernel
theorem dX10_matched_19 : decode cX10_matched 19 = .ok (.ireturn, 1) := by decide +kernel
theorem dX10_matched_20 : decode cX10_matched 20 = .ok (.aload_n 0, 1) := by decide +kernel
theorem dX10_matched_21 : decode cX10_matched 21 = .ok (.getfield 58, 3) := by decide +kernel
theorem dX10_matched_24 : decode cX10_matched 24 = .ok (.iload_n 1, 1) := by decide +kernel
theorem dX10_matched_25 : decode cX10_matched 25 = .ok (.iload_n 2, 1) := by decide +kernel
theorem dX10_matched_26 : decode cX10_matched 26 = .ok (.iload_n 3, 1) := by decide +kernel
theorem dX10_matched_27 : decode cX10_matched 27 = .ok (.aload_n 0, 1) := by decide +kernel
theorem dX10_matched_28 : decode cX10_matched 28 = .ok (.getfield 23, 3) := by decide +kernel
theorem dX10_matched_31 : decode cX10_matched 31 = .ok (.invokevirtual 238, 3) := by decide +kernel
theorem dX10_matched_34 : decode cX10_matched 34 = .ok (.ifCond .eq 18, 3) := by decide +kernel
theorem dX10_matched_37 : decode cX10_matched 37 = .ok (.iload 4, 2) := by decide +kernel
theorem dX10_matched_39 : decode cX10_matched 39 = .ok (.aload_n 0, 1) := by decide +kernel
theorem dX10_matched_40 : decode cX10_matched 40 = .ok (.getfield 58, 3) := by decide +kernel
theorem dX10_matched_43 : decode cX10_matched 43 = .ok (.getfield 245, 3) := by decide +kernel
theorem dX10_matched_46 : decode cX10_matched 46 = .ok (.invokestatic 87, 3) := by decide +kernel
theorem dX10_matched_49 : decode cX10_matched 49 = .ok (.ifCond .ne 6, 3) := by decide +kernel
theorem dX10_matched_52 : decode cX10_matched 52 = .ok (.bipush (-9), 2) := by decide +kernel
theorem dX10_matched_54 : decode cX10_matched 54 = .ok (.ireturn, 1) := by decide +kernel
theorem dX10_matched_55 : decode cX10_matched 55 = .ok (.aload_n 0, 1) := by decide +kernel
theorem dX10_matched_56 : decode cX10_matched 56 = .ok (.getfield 58, 3) := by decide +kernel
theorem dX10_matched_59 : decode cX10_matched 59 = .ok (.invokevirtual 248, 3) := by decide +kernel
theorem dX10_matched_62 : decode cX10_matched 62 = .ok (.aload_n 0, 1) := by decide +kernel
theorem dX10_matched_63 : decode cX10_matched 63 = .ok (.getfield 58, 3) := by decide +kernel
theorem dX10_matched_66 : decode cX10_matched 66 = .ok (.getfield 251, 3) := by decide +kernel
theorem dX10_matched_69 : decode cX10_matched 69 = .ok (.iload 4, 2) := by decide +kernel
theorem dX10_matched_71 : decode cX10_matched 71 = .ok (.iaload, 1) := by decide +kernel
theorem dX10_matched_72 : decode cX10_matched 72 = .ok (.ireturn, 1) := by decide +kernel
theorem dX10_sell_0 : decode cX10_sell 0 = .ok (.iload_n 1, 1) := by decide +kernel
theorem dX10_sell_1 : decode cX10_sell 1 = .ok (.iload_n 2, 1) := by decide +kernel
theorem dX10_sell_2 : decode cX10_sell 2 = .ok (.iload_n 3, 1) := by decide +kernel
theorem dX10_sell_3 : decode cX10_sell 3 = .ok (.invokestatic 235, 3) := by decide +kernel
theorem dX10_sell_6 : decode cX10_sell 6 = .ok (.istore 4, 2) := by decide +kernel
theorem dX10_sell_8 : decode cX10_sell 8 = .ok (.iload 4, 2) := by decide +kernel
theorem dX10_sell_10 : decode cX10_sell 10 = .ok (.ifCond .eq 10, 3) := by decide +kernel
theorem dX10_sell_13 : decode cX10_sell 13 = .ok (.aload_n 0, 1) := by decide +kernel
theorem dX10_sell_14 : decode cX10_sell 14 = .ok (.iload 4, 2) := by decide +kernel
theorem dX10_sell_16 : decode cX10_sell 16 = .ok (.invokevirtual 91, 3) := by decide +kernel
theorem dX10_sell_19 : decode cX10_sell 19 = .ok (.ireturn, 1) := by decide +kernel
theorem dX10_sell_20 : decode cX10_sell 20 = .ok (.aload_n 0, 1) := by decide +kernel
theorem dX10_sell_21 : decode cX10_sell 21 = .ok (.getfield 58, 3) := by decide +kernel
theorem dX10_sell_24 : decode cX10_sell 24 = .ok (.iload_n 1, 1) := by decide +kernel
theorem dX10_sell_25 : decode cX10_sell 25 = .ok (.iload_n 2, 1) := by decide +kernel
theorem dX10_sell_26 : decode cX10_sell 26 = .ok (.iload_n 3, 1) := by decide +kernel
theorem dX10_sell_27 : decode cX10_sell 27 = .ok (.aload_n 0, 1) := by decide +kernel
theorem dX10_sell_28 : decode cX10_sell 28 = .ok (.getfield 23, 3) := by decide +kernel
theorem dX10_sell_31 : decode cX10_sell 31 = .ok (.invokevirtual 238, 3) := by decide +kernel
theorem dX10_sell_34 : decode cX10_sell 34 = .ok (.ifCond .ne 10, 3) := by decide +kernel
theorem dX10_sell_37 : decode cX10_sell 37 = .ok (.aload_n 0, 1) := by decide +kernel
theorem dX10_sell_38 : decode cX10_sell 38 = .ok (.bipush (-3), 2) := by decide +kernel
theorem dX10_sell_40 : decode cX10_sell 40 = .ok (.invokevirtual 91, 3) := by decide +kernel
theorem dX10_sell_43 : decode cX10_sell 43 = .ok (.ireturn, 1) := by decide +kernel
theorem dX10_sell_44 : decode cX10_sell 44 = .ok (.iconst 0, 1) := by decide +kernel
theorem dX10_sell_45 : decode cX10_sell 45 = .ok (.istore 5, 2) := by decide +kernel
theorem dX10_sell_47 : decode cX10_sell 47 = .ok (.iload 5, 2) := by decide +kernel
theorem dX10_sell_49 : decode cX10_sell 49 = .ok (.aload_n 0, 1) := by decide +kernel
theorem dX10_sell_50 : decode cX10_sell 50 = .ok (.getfield 58, 3) := by decide +kernel
theorem dX10_sell_53 : decode cX10_sell 53 = .ok (.getfield 245, 3) := by decide +kernel
theorem dX10_sell_56 : decode cX10_sell 56 = .ok (.if_icmp .ge 28, 3) := by decide +kernel
theorem dX10_sell_59 : decode cX10_sell 59 = .ok (.aload_n 0, 1) := by decide +kernel
theorem dX10_sell_60 : decode cX10_sell 60 = .ok (.getfield 23, 3) := by decide +kernel
theorem dX10_sell_63 : decode cX10_sell 63 = .ok (.getfield 232, 3) := by decide +kernel
theorem dX10_sell_66 : decode cX10_sell 66 = .ok (.aload_n 0, 1) := by decide +kernel
theorem dX10_sell_67 : decode cX10_sell 67 = .ok (.getfield 58, 3) := by decide +kernel
theorem dX10_sell_70 : decode cX10_sell 70 = .ok (.getfield 251, 3) := by decide +kernel
theorem dX10_sell_73 : decode cX10_sell 73 = .ok (.iload 5, 2) := by decide +kernel
theorem dX10_sell_75 : decode cX10_sell 75 = .ok (.iaload, 1) := by decide +kernel
theorem dX10_sell_76 : decode cX10_sell 76 = .ok (.iconst 4, 1) := by decide +kernel
theorem dX10_sell_77 : decode cX10_sell 77 = .ok (.iastore, 1) := by decide +kernel
theorem dX10_sell_78 : decode cX10_sell 78 = .ok (.iinc 5 1, 3) := by decide +kernel
theorem dX10_sell_81 : decode cX10_sell 81 = .ok (.goto (-34), 3) := by decide +kernel
theorem dX10_sell_84 : decode cX10_sell 84 = .ok (.iload_n 2, 1) := by decide +kernel
theorem dX10_sell_85 : decode cX10_sell 85 = .ok (.ireturn, 1) := by decide +kernel
theorem dX10_chance_0 : decode cX10_chance 0 = .ok (.iload_n 1, 1) := by decide +kernel
theorem dX10_chance_1 : decode cX10_chance 1 = .ok (.ifCond .lt 11, 3) := by decide +kernel
theorem dX10_chance_4 : decode cX10_chance 4 = .ok (.iload_n 2, 1) := by decide +kernel
theorem dX10_chance_5 : decode cX10_chance 5 = .ok (.ifCond .lt 7, 3) := by decide +kernel
theorem dX10_chance_8 : decode cX10_chance 8 = .ok (.iload_n 3, 1) := by decide +kernel
theorem dX10_chance_9 : decode cX10_chance 9 = .ok (.ifCond .ge 10, 3) := by decide +kernel
theorem dX10_chance_12 : decode cX10_chance 12 = .ok (.aload_n 0, 1) := by decide +kernel
theorem dX10_chance_13 : decode cX10_chance 13 = .ok (.bipush (-4), 2) := by decide +kernel
theorem dX10_chance_15 : decode cX10_chance 15 = .ok (.invokevirtual 91, 3) := by decide +kernel
theorem dX10_chance_18 : decode cX10_chance 18 = .ok (.ireturn, 1) := by decide +kernel
theorem dX10_chance_19 : decode cX10_chance 19 = .ok (.iload_n 1, 1) := by decide +kernel
theorem dX10_chance_20 : decode cX10_chance 20 = .ok (.sipush 200, 3) := by decide +kernel
theorem dX10_chance_23 : decode cX10_chance 23 = .ok (.if_icmp .gt 17, 3) := by decide +kernel
theorem dX10_chance_26 : decode cX10_chance 26 = .ok (.iload_n 2, 1) := by decide +kernel
theorem dX10_chance_27 : decode cX10_chance 27 = .ok (.sipush 200, 3) := by decide +kernel
theorem dX10_chance_30 : decode cX10_chance 30 = .ok (.if_icmp .gt 10, 3) := by decide +kernel
theorem dX10_chance_33 : decode cX10_chance 33 = .ok (.iload_n 3, 1) := by decide +kernel
theorem dX10_chance_34 : decode cX10_chance 34 = .ok (.sipush 1024, 3) := by decide +kernel
theorem dX10_chance_37 : decode cX10_chance 37 = .ok (.if_icmp .le 10, 3) := by decide +kernel
theorem dX10_chance_40 : decode cX10_chance 40 = .ok (.aload_n 0, 1) := by decide +kernel
theorem dX10_chance_41 : decode cX10_chance 41 = .ok (.bipush (-6), 2) := by decide +kernel
theorem dX10_chance_43 : decode cX10_chance 43 = .ok (.invokevirtual 91, 3) := by decide +kernel
theorem dX10_chance_46 : decode cX10_chance 46 = .ok (.ireturn, 1) := by decide +kernel
theorem dX10_chance_47 : decode cX10_chance 47 = .ok (.aload_n 0, 1) := by decide +kernel
theorem dX10_chance_48 : decode cX10_chance 48 = .ok (.getfield 65, 3) := by decide +kernel
theorem dX10_chance_51 : decode cX10_chance 51 = .ok (.iload_n 1, 1) := by decide +kernel
theorem dX10_chance_52 : decode cX10_chance 52 = .ok (.iload_n 2, 1) := by decide +kernel
theorem dX10_chance_53 : decode cX10_chance 53 = .ok (.iload_n 3, 1) := by decide +kernel
theorem dX10_chance_54 : decode cX10_chance 54 = .ok (.invokevirtual 254, 3) := by decide +kernel
theorem dX10_chance_57 : decode cX10_chance 57 = .ok (.ireturn, 1) := by decide +kernel
theorem dX10_make_0 : decode cX10_make 0 = .ok (.iload_n 1, 1) := by decide +kernel
theorem dX10_make_1 : decode cX10_make 1 = .ok (.ifCond .lt 11, 3) := by decide +kernel
theorem dX10_make_4 : decode cX10_make 4 = .ok (.iload_n 2, 1) := by decide +kernel
theorem dX10_make_5 : decode cX10_make 5 = .ok (.ifCond .lt 7, 3) := by decide +kernel
theorem dX10_make_8 : decode cX10_make 8 = .ok (.iload_n 3, 1) := by decide +kernel
theorem dX10_make_9 : decode cX10_make 9 = .ok (.ifCond .ge 10, 3) := by decide +kernel
theorem dX10_make_12 : decode cX10_make 12 = .ok (.aload_n 0, 1) := by decide +kernel
theorem dX10_make_13 : decode cX10_make 13 = .ok (.bipush (-4), 2) := by decide +kernel
theorem dX10_make_15 : decode cX10_make 15 = .ok (.invokevirtual 91, 3) := by decide +kernel
theorem dX10_make_18 : decode cX10_make 18 = .ok (.ireturn, 1) := by decide +kernel
theorem dX10_make_19 : decode cX10_make 19 = .ok (.iload_n 1, 1) := by decide +kernel
theorem dX10_make_20 : decode cX10_make 20 = .ok (.sipush 200, 3) := by decide +kernel
theorem dX10_make_23 : decode cX10_make 23 = .ok (.if_icmp .gt 17, 3) := by decide +kernel
theorem dX10_make_26 : decode cX10_make 26 = .ok (.iload_n 2, 1) := by decide +kernel
theorem dX10_make_27 : decode cX10_make 27 = .ok (.sipush 1024, 3) := by decide +kernel
theorem dX10_make_30 : decode cX10_make 30 = .ok (.if_icmp .gt 10, 3) := by decide +kernel
theorem dX10_make_33 : decode cX10_make 33 = .ok (.iload_n 3, 1) := by decide +kernel
theorem dX10_make_34 : decode cX10_make 34 = .ok (.ldc_w 257, 3) := by decide +kernel
theorem dX10_make_37 : decode cX10_make 37 = .ok (.if_icmp .le 10, 3) := by decide +kernel
theorem dX10_make_40 : decode cX10_make 40 = .ok (.aload_n 0, 1) := by decide +kernel
theorem dX10_make_41 : decode cX10_make 41 = .ok (.bipush (-6), 2) := by decide +kernel
theorem dX10_make_43 : decode cX10_make 43 = .ok (.invokevirtual 91, 3) := by decide +kernel
theorem dX10_make_46 : decode cX10_make 46 = .ok (.ireturn, 1) := by decide +kernel
theorem dX10_make_47 : decode cX10_make 47 = .ok (.aload_n 0, 1) := by decide +kernel
theorem dX10_make_48 : decode cX10_make 48 = .ok (.getfield 65, 3) := by decide +kernel
theorem dX10_make_51 : decode cX10_make 51 = .ok (.iload_n 1, 1) := by decide +kernel
theorem dX10_make_52 : decode cX10_make 52 = .ok (.iload_n 2, 1) := by decide +kernel
theorem dX10_make_53 : decode cX10_make 53 = .ok (.iload_n 3, 1) := by decide +kernel
theorem dX10_make_54 : decode cX10_make 54 = .ok (.invokevirtual 258, 3) := by decide +kernel
theorem dX10_make_57 : decode cX10_make 57 = .ok (.ireturn, 1) := by decide +kernel
theorem dX10_see_0 : decode cX10_see 0 = .ok (.iload_n 1, 1) := by decide +kernel
theorem dX10_see_1 : decode cX10_see 1 = .ok (.bipush 16, 2) := by decide +kernel
theorem dX10_see_3 : decode cX10_see 3 = .ok (.invokestatic 87, 3) := by decide +kernel
theorem dX10_see_6 : decode cX10_see 6 = .ok (.ifCond .eq 11, 3) := by decide +kernel
theorem dX10_see_9 : decode cX10_see 9 = .ok (.iload_n 2, 1) := by decide +kernel
theorem dX10_see_10 : decode cX10_see 10 = .ok (.iconst 2, 1) := by decide +kernel
theorem dX10_see_11 : decode cX10_see 11 = .ok (.invokestatic 87, 3) := by decide +kernel
theorem dX10_see_14 : decode cX10_see 14 = .ok (.ifCond .ne 9, 3) := by decide +kernel
theorem dX10_see_17 : decode cX10_see 17 = .ok (.aload_n 0, 1) := by decide +kernel
theorem dX10_see_18 : decode cX10_see 18 = .ok (.iconst (-1), 1) := by decide +kernel
theorem dX10_see_19 : decode cX10_see 19 = .ok (.invokevirtual 91, 3) := by decide +kernel
theorem dX10_see_22 : decode cX10_see 22 = .ok (.ireturn, 1) := by decide +kernel
theorem dX10_see_23 : decode cX10_see 23 = .ok (.aload_n 0, 1) := by decide +kernel
theorem dX10_see_24 : decode cX10_see 24 = .ok (.getfield 72, 3) := by decide +kernel
theorem dX10_see_27 : decode cX10_see 27 = .ok (.iload_n 1, 1) := by decide +kernel
theorem dX10_see_28 : decode cX10_see 28 = .ok (.iload_n 2, 1) := by decide +kernel
theorem dX10_see_29 : decode cX10_see 29 = .ok (.aload_n 0, 1) := by decide +kernel
theorem dX10_see_30 : decode cX10_see 30 = .ok (.getfield 83, 3) := by decide +kernel
theorem dX10_see_33 : decode cX10_see 33 = .ok (.invokevirtual 261, 3) := by decide +kernel
theorem dX10_see_36 : decode cX10_see 36 = .ok (.ifCond .eq 7, 3) := by decide +kernel
theorem dX10_see_39 : decode cX10_see 39 = .ok (.iconst 1, 1) := by decide +kernel
theorem dX10_see_40 : decode cX10_see 40 = .ok (.goto 4, 3) := by decide +kernel
theorem dX10_see_43 : decode cX10_see 43 = .ok (.iconst 0, 1) := by decide +kernel
theorem dX10_see_44 : decode cX10_see 44 = .ok (.ireturn, 1) := by decide +kernel
theorem dX10_talk_0 : decode cX10_talk 0 = .ok (.iload_n 1, 1) := by decide +kernel
theorem dX10_talk_1 : decode cX10_talk 1 = .ok (.bipush 16, 2) := by decide +kernel
theorem dX10_talk_3 : decode cX10_talk 3 = .ok (.invokestatic 87, 3) := by decide +kernel
theorem dX10_talk_6 : decode cX10_talk 6 = .ok (.ifCond .eq 17, 3) := by decide +kernel
theorem dX10_talk_9 : decode cX10_talk 9 = .ok (.iload_n 2, 1) := by decide +kernel
theorem dX10_talk_10 : decode cX10_talk 10 = .ok (.bipush 16, 2) := by decide +kernel
theorem dX10_talk_12 : decode cX10_talk 12 = .ok (.invokestatic 87, 3) := by decide +kernel
theorem dX10_talk_15 : decode cX10_talk 15 = .ok (.ifCond .eq 8, 3) := by decide +kernel
theorem dX10_talk_18 : decode cX10_talk 18 = .ok (.iload_n 1, 1) := by decide +kernel
theorem dX10_talk_19 : decode cX10_talk 19 = .ok (.iload_n 2, 1) := by decide +kernel
theorem dX10_talk_20 : decode cX10_talk 20 = .ok (.if_icmp .ne 9, 3) := by decide +kernel
theorem dX10_talk_23 : decode cX10_talk 23 = .ok (.aload_n 0, 1) := by decide +kernel
theorem dX10_talk_24 : decode cX10_talk 24 = .ok (.iconst (-1), 1) := by decide +kernel
theorem dX10_talk_25 : decode cX10_talk 25 = .ok (.invokevirtual 91, 3) := by decide +kernel
theorem dX10_talk_28 : decode cX10_talk 28 = .ok (.ireturn, 1) := by decide +kernel
theorem dX10_talk_29 : decode cX10_talk 29 = .ok (.aload_n 0, 1) := by decide +kernel
theorem dX10_talk_30 : decode cX10_talk 30 = .ok (.getfield 72, 3) := by decide +kernel
theorem dX10_talk_33 : decode cX10_talk 33 = .ok (.iload_n 1, 1) := by decide +kernel
theorem dX10_talk_34 : decode cX10_talk 34 = .ok (.iload_n 2, 1) := by decide +kernel
theorem dX10_talk_35 : decode cX10_talk 35 = .ok (.aload_n 0, 1) := by decide +kernel
theorem dX10_talk_36 : decode cX10_talk 36 = .ok (.getfield 83, 3) := by decide +kernel
theorem dX10_talk_39 : decode cX10_talk 39 = .ok (.invokevirtual 265, 3) := by decide +kernel
theorem dX10_talk_42 : decode cX10_talk 42 = .ok (.ifCond .eq 5, 3) := by decide +kernel
theorem dX10_talk_45 : decode cX10_talk 45 = .ok (.iconst 0, 1) := by decide +kernel
theorem dX10_talk_46 : decode cX10_talk 46 = .ok (.ireturn, 1) := by decide +kernel
theorem dX10_talk_47 : decode cX10_talk 47 = .ok (.aload_n 0, 1) := by decide +kernel
theorem dX10_talk_48 : decode cX10_talk 48 = .ok (.getfield 72, 3) := by decide +kernel
theorem dX10_talk_51 : decode cX10_talk 51 = .ok (.getfield 268, 3) := by decide +kernel
theorem dX10_talk_54 : decode cX10_talk 54 = .ok (.bipush 60, 2) := by decide +kernel
theorem dX10_talk_56 : decode cX10_talk 56 = .ok (.if_icmp .lt 10, 3) := by decide +kernel
theorem dX10_talk_59 : decode cX10_talk 59 = .ok (.aload_n 0, 1) := by decide +kernel
theorem dX10_talk_60 : decode cX10_talk 60 = .ok (.bipush (-6), 2) := by decide +kernel
theorem dX10_talk_62 : decode cX10_talk 62 = .ok (.invokevirtual 91, 3) := by decide +kernel
theorem dX10_talk_65 : decode cX10_talk 65 = .ok (.ireturn, 1) := by decide +kernel
theorem dX10_talk_66 : decode cX10_talk 66 = .ok (.aload_n 0, 1) := by decide +kernel
theorem dX10_talk_67 : decode cX10_talk 67 = .ok (.getfield 72, 3) := by decide +kernel
theorem dX10_talk_70 : decode cX10_talk 70 = .ok (.iload_n 1, 1) := by decide +kernel
theorem dX10_talk_71 : decode cX10_talk 71 = .ok (.iload_n 2, 1) := by decide +kernel
theorem dX10_talk_72 : decode cX10_talk 72 = .ok (.aload_n 0, 1) := by decide +kernel
theorem dX10_talk_73 : decode cX10_talk 73 = .ok (.getfield 83, 3) := by decide +kernel
theorem dX10_talk_76 : decode cX10_talk 76 = .ok (.invokevirtual 271, 3) := by decide +kernel
theorem dX10_talk_79 : decode cX10_talk 79 = .ok (.iconst 1, 1) := by decide +kernel
theorem dX10_talk_80 : decode cX10_talk 80 = .ok (.ireturn, 1) := by decide +kernel
theorem dX10_knows_0 : decode cX10_knows 0 = .ok (.iload_n 1, 1) := by decide +kernel
theorem dX10_knows_1 : decode cX10_knows 1 = .ok (.bipush 16, 2) := by decide +kernel
theorem dX10_knows_3 : decode cX10_knows 3 = .ok (.invokestatic 87, 3) := by decide +kernel
theorem dX10_knows_6 : decode cX10_knows 6 = .ok (.ifCond .ne 9, 3) := by decide +kernel
theorem dX10_knows_9 : decode cX10_knows 9 = .ok (.aload_n 0, 1) := by decide +kernel
theorem dX10_knows_10 : decode cX10_knows 10 = .ok (.iconst (-1), 1) := by decide +kernel
theorem dX10_knows_11 : decode cX10_knows 11 = .ok (.invokevirtual 91, 3) := by decide +kernel
theorem dX10_knows_14 : decode cX10_knows 14 = .ok (.ireturn, 1) := by decide +kernel
theorem dX10_knows_15 : decode cX10_knows 15 = .ok (.aload_n 0, 1) := by decide +kernel
theorem dX10_knows_16 : decode cX10_knows 16 = .ok (.getfield 72, 3) := by decide +kernel
theorem dX10_knows_19 : decode cX10_knows 19 = .ok (.bipush (-9), 2) := by decide +kernel
theorem dX10_knows_21 : decode cX10_knows 21 = .ok (.invokevirtual 275, 3) := by decide +kernel
theorem dX10_knows_24 : decode cX10_knows 24 = .ok (.aload_n 0, 1) := by decide +kernel
theorem dX10_knows_25 : decode cX10_knows 25 = .ok (.getfield 72, 3) := by decide +kernel
theorem dX10_knows_28 : decode cX10_knows 28 = .ok (.iload_n 1, 1) := by decide +kernel
theorem dX10_knows_29 : decode cX10_knows 29 = .ok (.invokevirtual 278, 3) := by decide +kernel
theorem dX10_knows_32 : decode cX10_knows 32 = .ok (.ireturn, 1) := by decide +kernel
theorem dX10_joined_0 : decode cX10_joined 0 = .ok (.aload_n 0, 1) := by decide +kernel
theorem dX10_joined_1 : decode cX10_joined 1 = .ok (.getfield 72, 3) := by decide +kernel
theorem dX10_joined_4 : decode cX10_joined 4 = .ok (.bipush (-9), 2) := by decide +kernel
theorem dX10_joined_6 : decode cX10_joined 6 = .ok (.invokevirtual 275, 3) := by decide +kernel
theorem dX10_joined_9 : decode cX10_joined 9 = .ok (.aload_n 0, 1) := by decide +kernel
theorem dX10_joined_10 : decode cX10_joined 10 = .ok (.getfield 72, 3) := by decide +kernel
theorem dX10_joined_13 : decode cX10_joined 13 = .ok (.getfield 281, 3) := by decide +kernel
theorem dX10_joined_16 : decode cX10_joined 16 = .ok (.ireturn, 1) := by decide +kernel
theorem dX10_leak_0 : decode cX10_leak 0 = .ok (.aload_n 0, 1) := by decide +kernel
theorem dX10_leak_1 : decode cX10_leak 1 = .ok (.getfield 72, 3) := by decide +kernel
theorem dX10_leak_4 : decode cX10_leak 4 = .ok (.invokevirtual 284, 3) := by decide +kernel
theorem dX10_leak_7 : decode cX10_leak 7 = .ok (.ireturn, 1) := by decide +kernel
theorem dX10_debt_0 : decode cX10_debt 0 = .ok (.iload_n 1, 1) := by decide +kernel
theorem dX10_debt_1 : decode cX10_debt 1 = .ok (.ifCond .lt 7, 3) := by decide +kernel
theorem dX10_debt_4 : decode cX10_debt 4 = .ok (.iload_n 2, 1) := by decide +kernel
theorem dX10_debt_5 : decode cX10_debt 5 = .ok (.ifCond .ge 10, 3) := by decide +kernel
theorem dX10_debt_8 : decode cX10_debt 8 = .ok (.aload_n 0, 1) := by decide +kernel
theorem dX10_debt_9 : decode cX10_debt 9 = .ok (.bipush (-4), 2) := by decide +kernel
theorem dX10_debt_11 : decode cX10_debt 11 = .ok (.invokevirtual 91, 3) := by decide +kernel
theorem dX10_debt_14 : decode cX10_debt 14 = .ok (.ireturn, 1) := by decide +kernel
theorem dX10_debt_15 : decode cX10_debt 15 = .ok (.iload_n 1, 1) := by decide +kernel
theorem dX10_debt_16 : decode cX10_debt 16 = .ok (.ldc_w 287, 3) := by decide +kernel
theorem dX10_debt_19 : decode cX10_debt 19 = .ok (.if_icmp .gt 22, 3) := by decide +kernel
theorem dX10_debt_22 : decode cX10_debt 22 = .ok (.iload_n 2, 1) := by decide +kernel
theorem dX10_debt_23 : decode cX10_debt 23 = .ok (.sipush 500, 3) := by decide +kernel
theorem dX10_debt_26 : decode cX10_debt 26 = .ok (.if_icmp .gt 15, 3) := by decide +kernel
theorem dX10_debt_29 : decode cX10_debt 29 = .ok (.aload_n 0, 1) := by decide +kernel
theorem dX10_debt_30 : decode cX10_debt 30 = .ok (.getfield 79, 3) := by decide +kernel
theorem dX10_debt_33 : decode cX10_debt 33 = .ok (.getfield 288, 3) := by decide +kernel
theorem dX10_debt_36 : decode cX10_debt 36 = .ok (.bipush 6, 2) := by decide +kernel
theorem dX10_debt_38 : decode cX10_debt 38 = .ok (.if_icmp .lt 10, 3) := by decide +kernel
theorem dX10_debt_41 : decode cX10_debt 41 = .ok (.aload_n 0, 1) := by decide +kernel
theorem dX10_debt_42 : decode cX10_debt 42 = .ok (.bipush (-6), 2) := by decide +kernel
theorem dX10_debt_44 : decode cX10_debt 44 = .ok (.invokevirtual 91, 3) := by decide +kernel
theorem dX10_debt_47 : decode cX10_debt 47 = .ok (.ireturn, 1) := by decide +kernel
theorem dX10_debt_48 : decode cX10_debt 48 = .ok (.aload_n 0, 1) := by decide +kernel
theorem dX10_debt_49 : decode cX10_debt 49 = .ok (.getfield 79, 3) := by decide +kernel
theorem dX10_debt_52 : decode cX10_debt 52 = .ok (.iload_n 1, 1) := by decide +kernel
theorem dX10_debt_53 : decode cX10_debt 53 = .ok (.iload_n 2, 1) := by decide +kernel
theorem dX10_debt_54 : decode cX10_debt 54 = .ok (.aload_n 0, 1) := by decide +kernel
theorem dX10_debt_55 : decode cX10_debt 55 = .ok (.getfield 83, 3) := by decide +kernel
theorem dX10_debt_58 : decode cX10_debt 58 = .ok (.invokevirtual 291, 3) := by decide +kernel
theorem dX10_debt_61 : decode cX10_debt 61 = .ok (.ireturn, 1) := by decide +kernel
theorem dX10_pay_0 : decode cX10_pay 0 = .ok (.iload_n 1, 1) := by decide +kernel
theorem dX10_pay_1 : decode cX10_pay 1 = .ok (.aload_n 0, 1) := by decide +kernel
theorem dX10_pay_2 : decode cX10_pay 2 = .ok (.getfield 79, 3) := by decide +kernel
theorem dX10_pay_5 : decode cX10_pay 5 = .ok (.getfield 288, 3) := by decide +kernel
theorem dX10_pay_8 : decode cX10_pay 8 = .ok (.invokestatic 87, 3) := by decide +kernel
theorem dX10_pay_11 : decode cX10_pay 11 = .ok (.ifCond .ne 9, 3) := by decide +kernel
theorem dX10_pay_14 : decode cX10_pay 14 = .ok (.aload_n 0, 1) := by decide +kernel
theorem dX10_pay_15 : decode cX10_pay 15 = .ok (.iconst (-1), 1) := by decide +kernel
theorem dX10_pay_16 : decode cX10_pay 16 = .ok (.invokevirtual 91, 3) := by decide +kernel
theorem dX10_pay_19 : decode cX10_pay 19 = .ok (.ireturn, 1) := by decide +kernel
theorem dX10_pay_20 : decode cX10_pay 20 = .ok (.iload_n 2, 1) := by decide +kernel
theorem dX10_pay_21 : decode cX10_pay 21 = .ok (.iconst 1, 1) := by decide +kernel
theorem dX10_pay_22 : decode cX10_pay 22 = .ok (.if_icmp .ge 10, 3) := by decide +kernel
theorem dX10_pay_25 : decode cX10_pay 25 = .ok (.aload_n 0, 1) := by decide +kernel
theorem dX10_pay_26 : decode cX10_pay 26 = .ok (.bipush (-4), 2) := by decide +kernel
theorem dX10_pay_28 : decode cX10_pay 28 = .ok (.invokevirtual 91, 3) := by decide +kernel
theorem dX10_pay_31 : decode cX10_pay 31 = .ok (.ireturn, 1) := by decide +kernel
theorem dX10_pay_32 : decode cX10_pay 32 = .ok (.iload_n 2, 1) := by decide +kernel
theorem dX10_pay_33 : decode cX10_pay 33 = .ok (.ldc_w 287, 3) := by decide +kernel
theorem dX10_pay_36 : decode cX10_pay 36 = .ok (.if_icmp .gt 16, 3) := by decide +kernel
theorem dX10_pay_39 : decode cX10_pay 39 = .ok (.iload_n 2, 1) := by decide +kernel
theorem dX10_pay_40 : decode cX10_pay 40 = .ok (.aload_n 0, 1) := by decide +kernel
theorem dX10_pay_41 : decode cX10_pay 41 = .ok (.getfield 79, 3) := by decide +kernel
theorem dX10_pay_44 : decode cX10_pay 44 = .ok (.getfield 294, 3) := by decide +kernel
theorem dX10_pay_47 : decode cX10_pay 47 = .ok (.iload_n 1, 1) := by decide +kernel
theorem dX10_pay_48 : decode cX10_pay 48 = .ok (.iaload, 1) := by decide +kernel
theorem dX10_pay_49 : decode cX10_pay 49 = .ok (.if_icmp .le 10, 3) := by decide +kernel
theorem dX10_pay_52 : decode cX10_pay 52 = .ok (.aload_n 0, 1) := by decide +kernel
theorem dX10_pay_53 : decode cX10_pay 53 = .ok (.bipush (-6), 2) := by decide +kernel
theorem dX10_pay_55 : decode cX10_pay 55 = .ok (.invokevirtual 91, 3) := by decide +kernel
theorem dX10_pay_58 : decode cX10_pay 58 = .ok (.ireturn, 1) := by decide +kernel
theorem dX10_pay_59 : decode cX10_pay 59 = .ok (.aload_n 0, 1) := by decide +kernel
theorem dX10_pay_60 : decode cX10_pay 60 = .ok (.getfield 79, 3) := by decide +kernel
theorem dX10_pay_63 : decode cX10_pay 63 = .ok (.getfield 294, 3) := by decide +kernel
theorem dX10_pay_66 : decode cX10_pay 66 = .ok (.iload_n 1, 1) := by decide +kernel
theorem dX10_pay_67 : decode cX10_pay 67 = .ok (.dup2, 1) := by decide +kernel
theorem dX10_pay_68 : decode cX10_pay 68 = .ok (.iaload, 1) := by decide +kernel
theorem dX10_pay_69 : decode cX10_pay 69 = .ok (.iload_n 2, 1) := by decide +kernel
theorem dX10_pay_70 : decode cX10_pay 70 = .ok (.isub, 1) := by decide +kernel
theorem dX10_pay_71 : decode cX10_pay 71 = .ok (.iastore, 1) := by decide +kernel
theorem dX10_pay_72 : decode cX10_pay 72 = .ok (.aload_n 0, 1) := by decide +kernel
theorem dX10_pay_73 : decode cX10_pay 73 = .ok (.getfield 79, 3) := by decide +kernel
theorem dX10_pay_76 : decode cX10_pay 76 = .ok (.getfield 294, 3) := by decide +kernel
theorem dX10_pay_79 : decode cX10_pay 79 = .ok (.iload_n 1, 1) := by decide +kernel
theorem dX10_pay_80 : decode cX10_pay 80 = .ok (.iaload, 1) := by decide +kernel
theorem dX10_pay_81 : decode cX10_pay 81 = .ok (.ireturn, 1) := by decide +kernel
theorem dX10_owed_0 : decode cX10_owed 0 = .ok (.iload_n 1, 1) := by decide +kernel
theorem dX10_owed_1 : decode cX10_owed 1 = .ok (.aload_n 0, 1) := by decide +kernel
theorem dX10_owed_2 : decode cX10_owed 2 = .ok (.getfield 79, 3) := by decide +kernel
theorem dX10_owed_5 : decode cX10_owed 5 = .ok (.getfield 288, 3) := by decide +kernel
theorem dX10_owed_8 : decode cX10_owed 8 = .ok (.invokestatic 87, 3) := by decide +kernel
theorem dX10_owed_11 : decode cX10_owed 11 = .ok (.ifCond .ne 9, 3) := by decide +kernel
theorem dX10_owed_14 : decode cX10_owed 14 = .ok (.aload_n 0, 1) := by decide +kernel
theorem dX10_owed_15 : decode cX10_owed 15 = .ok (.iconst (-1), 1) := by decide +kernel
theorem dX10_owed_16 : decode cX10_owed 16 = .ok (.invokevirtual 91, 3) := by decide +kernel
theorem dX10_owed_19 : decode cX10_owed 19 = .ok (.ireturn, 1) := by decide +kernel
theorem dX10_owed_20 : decode cX10_owed 20 = .ok (.iload_n 2, 1) := by decide +kernel
theorem dX10_owed_21 : decode cX10_owed 21 = .ok (.ifCond .ge 10, 3) := by decide +kernel
theorem dX10_owed_24 : decode cX10_owed 24 = .ok (.aload_n 0, 1) := by decide +kernel
theorem dX10_owed_25 : decode cX10_owed 25 = .ok (.bipush (-4), 2) := by decide +kernel
theorem dX10_owed_27 : decode cX10_owed 27 = .ok (.invokevirtual 91, 3) := by decide +kernel
theorem dX10_owed_30 : decode cX10_owed 30 = .ok (.ireturn, 1) := by decide +kernel
theorem dX10_owed_31 : decode cX10_owed 31 = .ok (.iload_n 2, 1) := by decide +kernel
theorem dX10_owed_32 : decode cX10_owed 32 = .ok (.sipush 4000, 3) := by decide +kernel
theorem dX10_owed_35 : decode cX10_owed 35 = .ok (.if_icmp .le 10, 3) := by decide +kernel
theorem dX10_owed_38 : decode cX10_owed 38 = .ok (.aload_n 0, 1) := by decide +kernel
theorem dX10_owed_39 : decode cX10_owed 39 = .ok (.bipush (-6), 2) := by decide +kernel
theorem dX10_owed_41 : decode cX10_owed 41 = .ok (.invokevirtual 91, 3) := by decide +kernel
theorem dX10_owed_44 : decode cX10_owed 44 = .ok (.ireturn, 1) := by decide +kernel
theorem dX10_owed_45 : decode cX10_owed 45 = .ok (.aload_n 0, 1) := by decide +kernel
theorem dX10_owed_46 : decode cX10_owed 46 = .ok (.getfield 79, 3) := by decide +kernel
theorem dX10_owed_49 : decode cX10_owed 49 = .ok (.iload_n 1, 1) := by decide +kernel
theorem dX10_owed_50 : decode cX10_owed 50 = .ok (.aload_n 0, 1) := by decide +kernel
theorem dX10_owed_51 : decode cX10_owed 51 = .ok (.getfield 83, 3) := by decide +kernel
theorem dX10_owed_54 : decode cX10_owed 54 = .ok (.iload_n 2, 1) := by decide +kernel
theorem dX10_owed_55 : decode cX10_owed 55 = .ok (.invokevirtual 297, 3) := by decide +kernel
theorem dX10_owed_58 : decode cX10_owed 58 = .ok (.ireturn, 1) := by decide +kernel
theorem dX10_pieceOf_0 : decode cX10_pieceOf 0 = .ok (.iload_n 1, 1) := by decide +kernel
theorem dX10_pieceOf_1 : decode cX10_pieceOf 1 = .ok (.aload_n 0, 1) := by decide +kernel
theorem dX10_pieceOf_2 : decode cX10_pieceOf 2 = .ok (.getfield 23, 3) := by decide +kernel
theorem dX10_pieceOf_5 : decode cX10_pieceOf 5 = .ok (.getfield 118, 3) := by decide +kernel
theorem dX10_pieceOf_8 : decode cX10_pieceOf 8 = .ok (.invokestatic 87, 3) := by decide +kernel
theorem dX10_pieceOf_11 : decode cX10_pieceOf 11 = .ok (.ifCond .ne 9, 3) := by decide +kernel
theorem dX10_pieceOf_14 : decode cX10_pieceOf 14 = .ok (.aload_n 0, 1) := by decide +kernel
theorem dX10_pieceOf_15 : decode cX10_pieceOf 15 = .ok (.iconst (-1), 1) := by decide +kernel
theorem dX10_pieceOf_16 : decode cX10_pieceOf 16 = .ok (.invokevirtual 91, 3) := by decide +kernel
theorem dX10_pieceOf_19 : decode cX10_pieceOf 19 = .ok (.ireturn, 1) := by decide +kernel
theorem dX10_pieceOf_20 : decode cX10_pieceOf 20 = .ok (.iload_n 2, 1) := by decide +kernel
theorem dX10_pieceOf_21 : decode cX10_pieceOf 21 = .ok (.tableswitch 113 0 6 #[43, 53, 63, 73, 83, 93, 103], 43) := by decide +kernel
theorem dX10_pieceOf_64 : decode cX10_pieceOf 64 = .ok (.aload_n 0, 1) := by decide +kernel
theorem dX10_pieceOf_65 : decode cX10_pieceOf 65 = .ok (.getfield 23, 3) := by decide +kernel
theorem dX10_pieceOf_68 : decode cX10_pieceOf 68 = .ok (.getfield 232, 3) := by decide +kernel
theorem dX10_pieceOf_71 : decode cX10_pieceOf 71 = .ok (.iload_n 1, 1) := by decide +kernel
theorem dX10_pieceOf_72 : decode cX10_pieceOf 72 = .ok (.iaload, 1) := by decide +kernel
theorem dX10_pieceOf_73 : decode cX10_pieceOf 73 = .ok (.ireturn, 1) := by decide +kernel
theorem dX10_pieceOf_74 : decode cX10_pieceOf 74 = .ok (.aload_n 0, 1) := by decide +kernel
theorem dX10_pieceOf_75 : decode cX10_pieceOf 75 = .ok (.getfield 23, 3) := by decide +kernel
theorem dX10_pieceOf_78 : decode cX10_pieceOf 78 = .ok (.getfield 300, 3) := by decide +kernel
theorem dX10_pieceOf_81 : decode cX10_pieceOf 81 = .ok (.iload_n 1, 1) := by decide +kernel
theorem dX10_pieceOf_82 : decode cX10_pieceOf 82 = .ok (.iaload, 1) := by decide +kernel
theorem dX10_pieceOf_83 : decode cX10_pieceOf 83 = .ok (.ireturn, 1) := by decide +kernel
theorem dX10_pieceOf_84 : decode cX10_pieceOf 84 = .ok (.aload_n 0, 1) := by decide +kernel
theorem dX10_pieceOf_85 : decode cX10_pieceOf 85 = .ok (.getfield 23, 3) := by decide +kernel
theorem dX10_pieceOf_88 : decode cX10_pieceOf 88 = .ok (.getfield 303, 3) := by decide +kernel
theorem dX10_pieceOf_91 : decode cX10_pieceOf 91 = .ok (.iload_n 1, 1) := by decide +kernel
theorem dX10_pieceOf_92 : decode cX10_pieceOf 92 = .ok (.iaload, 1) := by decide +kernel
theorem dX10_pieceOf_93 : decode cX10_pieceOf 93 = .ok (.ireturn, 1) := by decide +kernel
theorem dX10_pieceOf_94 : decode cX10_pieceOf 94 = .ok (.aload_n 0, 1) := by decide +kernel
theorem dX10_pieceOf_95 : decode cX10_pieceOf 95 = .ok (.getfield 23, 3) := by decide +kernel
theorem dX10_pieceOf_98 : decode cX10_pieceOf 98 = .ok (.getfield 306, 3) := by decide +kernel
theorem dX10_pieceOf_101 : decode cX10_pieceOf 101 = .ok (.iload_n 1, 1) := by decide +kernel
theorem dX10_pieceOf_102 : decode cX10_pieceOf 102 = .ok (.iaload, 1) := by decide +kernel
theorem dX10_pieceOf_103 : decode cX10_pieceOf 103 = .ok (.ireturn, 1) := by decide +kernel
theorem dX10_pieceOf_104 : decode cX10_pieceOf 104 = .ok (.aload_n 0, 1) := by decide +kernel
theorem dX10_pieceOf_105 : decode cX10_pieceOf 105 = .ok (.getfield 23, 3) := by decide +kernel
theorem dX10_pieceOf_108 : decode cX10_pieceOf 108 = .ok (.getfield 309, 3) := by decide +kernel
theorem dX10_pieceOf_111 : decode cX10_pieceOf 111 = .ok (.iload_n 1, 1) := by decide +kernel
theorem dX10_pieceOf_112 : decode cX10_pieceOf 112 = .ok (.iaload, 1) := by decide +kernel
theorem dX10_pieceOf_113 : decode cX10_pieceOf 113 = .ok (.ireturn, 1) := by decide +kernel
theorem dX10_pieceOf_114 : decode cX10_pieceOf 114 = .ok (.aload_n 0, 1) := by decide +kernel
theorem dX10_pieceOf_115 : decode cX10_pieceOf 115 = .ok (.getfield 23, 3) := by decide +kernel
theorem dX10_pieceOf_118 : decode cX10_pieceOf 118 = .ok (.getfield 310, 3) := by decide +kernel
theorem dX10_pieceOf_121 : decode cX10_pieceOf 121 = .ok (.iload_n 1, 1) := by decide +kernel
theorem dX10_pieceOf_122 : decode cX10_pieceOf 122 = .ok (.iaload, 1) := by decide +kernel
theorem dX10_pieceOf_123 : decode cX10_pieceOf 123 = .ok (.ireturn, 1) := by decide +kernel
theorem dX10_pieceOf_124 : decode cX10_pieceOf 124 = .ok (.aload_n 0, 1) := by decide +kernel
theorem dX10_pieceOf_125 : decode cX10_pieceOf 125 = .ok (.getfield 23, 3) := by decide +kernel
theorem dX10_pieceOf_128 : decode cX10_pieceOf 128 = .ok (.getfield 311, 3) := by decide +kernel
theorem dX10_pieceOf_131 : decode cX10_pieceOf 131 = .ok (.iload_n 1, 1) := by decide +kernel
theorem dX10_pieceOf_132 : decode cX10_pieceOf 132 = .ok (.iaload, 1) := by decide +kernel
theorem dX10_pieceOf_133 : decode cX10_pieceOf 133 = .ok (.ireturn, 1) := by decide +kernel
theorem dX10_pieceOf_134 : decode cX10_pieceOf 134 = .ok (.aload_n 0, 1) := by decide +kernel
theorem dX10_pieceOf_135 : decode cX10_pieceOf 135 = .ok (.bipush (-2), 2) := by decide +kernel
theorem dX10_pieceOf_137 : decode cX10_pieceOf 137 = .ok (.invokevirtual 91, 3) := by decide +kernel
theorem dX10_pieceOf_140 : decode cX10_pieceOf 140 = .ok (.ireturn, 1) := by decide +kernel
theorem dX10_count_0 : decode cX10_count 0 = .ok (.iload_n 1, 1) := by decide +kernel
theorem dX10_count_1 : decode cX10_count 1 = .ok (.iconst 3, 1) := by decide +kernel
theorem dX10_count_2 : decode cX10_count 2 = .ok (.if_icmp .lt 20, 3) := by decide +kernel
theorem dX10_count_5 : decode cX10_count 5 = .ok (.iload_n 1, 1) := by decide +kernel
theorem dX10_count_6 : decode cX10_count 6 = .ok (.bipush 7, 2) := by decide +kernel
theorem dX10_count_8 : decode cX10_count 8 = .ok (.if_icmp .gt 14, 3) := by decide +kernel
theorem dX10_count_11 : decode cX10_count 11 = .ok (.aload_n 0, 1) := by decide +kernel
theorem dX10_count_12 : decode cX10_count 12 = .ok (.getfield 23, 3) := by decide +kernel
theorem dX10_count_15 : decode cX10_count 15 = .ok (.iload_n 1, 1) := by decide +kernel
theorem dX10_count_16 : decode cX10_count 16 = .ok (.iconst 3, 1) := by decide +kernel
theorem dX10_count_17 : decode cX10_count 17 = .ok (.isub, 1) := by decide +kernel
theorem dX10_count_18 : decode cX10_count 18 = .ok (.invokevirtual 314, 3) := by decide +kernel
theorem dX10_count_21 : decode cX10_count 21 = .ok (.ireturn, 1) := by decide +kernel
theorem dX10_count_22 : decode cX10_count 22 = .ok (.iload_n 1, 1) := by decide +kernel
theorem dX10_count_23 : decode cX10_count 23 = .ok (.bipush 11, 2) := by decide +kernel
theorem dX10_count_25 : decode cX10_count 25 = .ok (.if_icmp .lt 19, 3) := by decide +kernel
theorem dX10_count_28 : decode cX10_count 28 = .ok (.iload_n 1, 1) := by decide +kernel
theorem dX10_count_29 : decode cX10_count 29 = .ok (.bipush 16, 2) := by decide +kernel
theorem dX10_count_31 : decode cX10_count 31 = .ok (.if_icmp .gt 13, 3) := by decide +kernel
theorem dX10_count_34 : decode cX10_count 34 = .ok (.aload_n 0, 1) := by decide +kernel
theorem dX10_count_35 : decode cX10_count 35 = .ok (.getfield 9, 3) := by decide +kernel
theorem dX10_count_38 : decode cX10_count 38 = .ok (.iload_n 1, 1) := by decide +kernel
theorem dX10_count_39 : decode cX10_count 39 = .ok (.bipush 11, 2) := by decide +kernel
theorem dX10_count_41 : decode cX10_count 41 = .ok (.isub, 1) := by decide +kernel
theorem dX10_count_42 : decode cX10_count 42 = .ok (.iaload, 1) := by decide +kernel
theorem dX10_count_43 : decode cX10_count 43 = .ok (.ireturn, 1) := by decide +kernel
theorem dX10_count_44 : decode cX10_count 44 = .ok (.iload_n 1, 1) := by decide +kernel
theorem dX10_count_45 : decode cX10_count 45 = .ok (.bipush 20, 2) := by decide +kernel
theorem dX10_count_47 : decode cX10_count 47 = .ok (.if_icmp .lt 38, 3) := by decide +kernel
theorem dX10_count_50 : decode cX10_count 50 = .ok (.iload_n 1, 1) := by decide +kernel
theorem dX10_count_51 : decode cX10_count 51 = .ok (.bipush 20, 2) := by decide +kernel
theorem dX10_count_53 : decode cX10_count 53 = .ok (.isub, 1) := by decide +kernel
theorem dX10_count_54 : decode cX10_count 54 = .ok (.aload_n 0, 1) := by decide +kernel
theorem dX10_count_55 : decode cX10_count 55 = .ok (.getfield 16, 3) := by decide +kernel
theorem dX10_count_58 : decode cX10_count 58 = .ok (.getfield 102, 3) := by decide +kernel
theorem dX10_count_61 : decode cX10_count 61 = .ok (.invokestatic 87, 3) := by decide +kernel
theorem dX10_count_64 : decode cX10_count 64 = .ok (.ifCond .eq 18, 3) := by decide +kernel
theorem dX10_count_67 : decode cX10_count 67 = .ok (.aload_n 0, 1) := by decide +kernel
theorem dX10_count_68 : decode cX10_count 68 = .ok (.getfield 16, 3) := by decide +kernel
theorem dX10_count_71 : decode cX10_count 71 = .ok (.getfield 115, 3) := by decide +kernel
theorem dX10_count_74 : decode cX10_count 74 = .ok (.iload_n 1, 1) := by decide +kernel
theorem dX10_count_75 : decode cX10_count 75 = .ok (.bipush 20, 2) := by decide +kernel
theorem dX10_count_77 : decode cX10_count 77 = .ok (.isub, 1) := by decide +kernel
theorem dX10_count_78 : decode cX10_count 78 = .ok (.iaload, 1) := by decide +kernel
theorem dX10_count_79 : decode cX10_count 79 = .ok (.goto 5, 3) := by decide +kernel
theorem dX10_count_82 : decode cX10_count 82 = .ok (.bipush (-9), 2) := by decide +kernel
theorem dX10_count_84 : decode cX10_count 84 = .ok (.ireturn, 1) := by decide +kernel
theorem dX10_count_85 : decode cX10_count 85 = .ok (.iload_n 1, 1) := by decide +kernel
theorem dX10_count_86 : decode cX10_count 86 = .ok (.tableswitch 103 0 10 #[58, 63, 71, 103, 103, 103, 103, 103, 79, 87, 95], 58) := by decide +kernel
theorem dX10_count_144 : decode cX10_count 144 = .ok (.aload_n 0, 1) := by decide +kernel
theorem dX10_count_145 : decode cX10_count 145 = .ok (.getfield 83, 3) := by decide +kernel
theorem dX10_count_148 : decode cX10_count 148 = .ok (.ireturn, 1) := by decide +kernel
theorem dX10_count_149 : decode cX10_count 149 = .ok (.aload_n 0, 1) := by decide +kernel
theorem dX10_count_150 : decode cX10_count 150 = .ok (.getfield 16, 3) := by decide +kernel
theorem dX10_count_153 : decode cX10_count 153 = .ok (.getfield 102, 3) := by decide +kernel
theorem dX10_count_156 : decode cX10_count 156 = .ok (.ireturn, 1) := by decide +kernel
theorem dX10_count_157 : decode cX10_count 157 = .ok (.aload_n 0, 1) := by decide +kernel
theorem dX10_count_158 : decode cX10_count 158 = .ok (.getfield 23, 3) := by decide +kernel
theorem dX10_count_161 : decode cX10_count 161 = .ok (.getfield 118, 3) := by decide +kernel
theorem dX10_count_164 : decode cX10_count 164 = .ok (.ireturn, 1) := by decide +kernel
theorem dX10_count_165 : decode cX10_count 165 = .ok (.aload_n 0, 1) := by decide +kernel
theorem dX10_count_166 : decode cX10_count 166 = .ok (.getfield 30, 3) := by decide +kernel
theorem dX10_count_169 : decode cX10_count 169 = .ok (.getfield 134, 3) := by decide +kernel
theorem dX10_count_172 : decode cX10_count 172 = .ok (.ireturn, 1) := by decide +kernel
theorem dX10_count_173 : decode cX10_count 173 = .ok (.aload_n 0, 1) := by decide +kernel
theorem dX10_count_174 : decode cX10_count 174 = .ok (.getfield 30, 3) := by decide +kernel
theorem dX10_count_177 : decode cX10_count 177 = .ok (.getfield 317, 3) := by decide +kernel
theorem dX10_count_180 : decode cX10_count 180 = .ok (.ireturn, 1) := by decide +kernel
theorem dX10_count_181 : decode cX10_count 181 = .ok (.aload_n 0, 1) := by decide +kernel
theorem dX10_count_182 : decode cX10_count 182 = .ok (.getfield 72, 3) := by decide +kernel
theorem dX10_count_185 : decode cX10_count 185 = .ok (.getfield 268, 3) := by decide +kernel
theorem dX10_count_188 : decode cX10_count 188 = .ok (.ireturn, 1) := by decide +kernel
theorem dX10_count_189 : decode cX10_count 189 = .ok (.bipush (-9), 2) := by decide +kernel
theorem dX10_count_191 : decode cX10_count 191 = .ok (.ireturn, 1) := by decide +kernel
theorem dX10_within_0 : decode cX10_within 0 = .ok (.iload_n 0, 1) := by decide +kernel
theorem dX10_within_1 : decode cX10_within 1 = .ok (.ifCond .lt 12, 3) := by decide +kernel
theorem dX10_within_4 : decode cX10_within 4 = .ok (.iload_n 0, 1) := by decide +kernel
theorem dX10_within_5 : decode cX10_within 5 = .ok (.iload_n 1, 1) := by decide +kernel
theorem dX10_within_6 : decode cX10_within 6 = .ok (.if_icmp .ge 7, 3) := by decide +kernel
theorem dX10_within_9 : decode cX10_within 9 = .ok (.iconst 1, 1) := by decide +kernel
theorem dX10_within_10 : decode cX10_within 10 = .ok (.goto 4, 3) := by decide +kernel
theorem dX10_within_13 : decode cX10_within 13 = .ok (.iconst 0, 1) := by decide +kernel
theorem dX10_within_14 : decode cX10_within 14 = .ok (.ireturn, 1) := by decide +kernel
theorem dX10_isColourSet_0 : decode cX10_isColourSet 0 = .ok (.iload_n 0, 1) := by decide +kernel
theorem dX10_isColourSet_1 : decode cX10_isColourSet 1 = .ok (.sipush (-4096), 3) := by decide +kernel
theorem dX10_isColourSet_4 : decode cX10_isColourSet 4 = .ok (.iand, 1) := by decide +kernel
theorem dX10_isColourSet_5 : decode cX10_isColourSet 5 = .ok (.ifCond .ne 7, 3) := by decide +kernel
theorem dX10_isColourSet_8 : decode cX10_isColourSet 8 = .ok (.iconst 1, 1) := by decide +kernel
theorem dX10_isColourSet_9 : decode cX10_isColourSet 9 = .ok (.goto 4, 3) := by decide +kernel
theorem dX10_isColourSet_12 : decode cX10_isColourSet 12 = .ok (.iconst 0, 1) := by decide +kernel
theorem dX10_isColourSet_13 : decode cX10_isColourSet 13 = .ok (.ireturn, 1) := by decide +kernel
theorem dX10_refuse_0 : decode cX10_refuse 0 = .ok (.iconst (-1), 1) := by decide +kernel
theorem dX10_refuse_1 : decode cX10_refuse 1 = .ok (.iload_n 1, 1) := by decide +kernel
theorem dX10_refuse_2 : decode cX10_refuse 2 = .ok (.isub, 1) := by decide +kernel
theorem dX10_refuse_3 : decode cX10_refuse 3 = .ok (.istore_n 2, 1) := by decide +kernel
theorem dX10_refuse_4 : decode cX10_refuse 4 = .ok (.iload_n 2, 1) := by decide +kernel
theorem dX10_refuse_5 : decode cX10_refuse 5 = .ok (.bipush 6, 2) := by decide +kernel
theorem dX10_refuse_7 : decode cX10_refuse 7 = .ok (.invokestatic 87, 3) := by decide +kernel
theorem dX10_refuse_10 : decode cX10_refuse 10 = .ok (.ifCond .eq 13, 3) := by decide +kernel
theorem dX10_refuse_13 : decode cX10_refuse 13 = .ok (.aload_n 0, 1) := by decide +kernel
theorem dX10_refuse_14 : decode cX10_refuse 14 = .ok (.getfield 9, 3) := by decide +kernel
theorem dX10_refuse_17 : decode cX10_refuse 17 = .ok (.iload_n 2, 1) := by decide +kernel
theorem dX10_refuse_18 : decode cX10_refuse 18 = .ok (.dup2, 1) := by decide +kernel
theorem dX10_refuse_19 : decode cX10_refuse 19 = .ok (.iaload, 1) := by decide +kernel
theorem dX10_refuse_20 : decode cX10_refuse 20 = .ok (.iconst 1, 1) := by decide +kernel
theorem dX10_refuse_21 : decode cX10_refuse 21 = .ok (.iadd, 1) := by decide +kernel
theorem dX10_refuse_22 : decode cX10_refuse 22 = .ok (.iastore, 1) := by decide +kernel
theorem dX10_refuse_23 : decode cX10_refuse 23 = .ok (.iload_n 1, 1) := by decide +kernel
theorem dX10_refuse_24 : decode cX10_refuse 24 = .ok (.ireturn, 1) := by decide +kernel
theorem dX10_serviceRefusal_0 : decode cX10_serviceRefusal 0 = .ok (.iload_n 0, 1) := by decide +kernel
theorem dX10_serviceRefusal_1 : decode cX10_serviceRefusal 1 = .ok (.bipush 10, 2) := by decide +kernel
theorem dX10_serviceRefusal_3 : decode cX10_serviceRefusal 3 = .ok (.invokestatic 87, 3) := by decide +kernel
theorem dX10_serviceRefusal_6 : decode cX10_serviceRefusal 6 = .ok (.ifCond .ne 5, 3) := by decide +kernel
theorem dX10_serviceRefusal_9 : decode cX10_serviceRefusal 9 = .ok (.iconst (-1), 1) := by decide +kernel
theorem dX10_serviceRefusal_10 : decode cX10_serviceRefusal 10 = .ok (.ireturn, 1) := by decide +kernel
theorem dX10_serviceRefusal_11 : decode cX10_serviceRefusal 11 = .ok (.iload_n 1, 1) := by decide +kernel
theorem dX10_serviceRefusal_12 : decode cX10_serviceRefusal 12 = .ok (.iconst 1, 1) := by decide +kernel
theorem dX10_serviceRefusal_13 : decode cX10_serviceRefusal 13 = .ok (.if_icmp .lt 7, 3) := by decide +kernel
theorem dX10_serviceRefusal_16 : decode cX10_serviceRefusal 16 = .ok (.iload_n 2, 1) := by decide +kernel
theorem dX10_serviceRefusal_17 : decode cX10_serviceRefusal 17 = .ok (.ifCond .ge 6, 3) := by decide +kernel
theorem dX10_serviceRefusal_20 : decode cX10_serviceRefusal 20 = .ok (.bipush (-4), 2) := by decide +kernel
theorem dX10_serviceRefusal_22 : decode cX10_serviceRefusal 22 = .ok (.ireturn, 1) := by decide +kernel
theorem dX10_serviceRefusal_23 : decode cX10_serviceRefusal 23 = .ok (.iload_n 1, 1) := by decide +kernel
theorem dX10_serviceRefusal_24 : decode cX10_serviceRefusal 24 = .ok (.bipush 12, 2) := by decide +kernel
theorem dX10_serviceRefusal_26 : decode cX10_serviceRefusal 26 = .ok (.if_icmp .gt 9, 3) := by decide +kernel
theorem dX10_serviceRefusal_29 : decode cX10_serviceRefusal 29 = .ok (.iload_n 2, 1) := by decide +kernel
theorem dX10_serviceRefusal_30 : decode cX10_serviceRefusal 30 = .ok (.bipush 100, 2) := by decide +kernel
theorem dX10_serviceRefusal_32 : decode cX10_serviceRefusal 32 = .ok (.if_icmp .le 6, 3) := by decide +kernel
theorem dX10_serviceRefusal_35 : decode cX10_serviceRefusal 35 = .ok (.bipush (-6), 2) := by decide +kernel
theorem dX10_serviceRefusal_37 : decode cX10_serviceRefusal 37 = .ok (.ireturn, 1) := by decide +kernel
theorem dX10_serviceRefusal_38 : decode cX10_serviceRefusal 38 = .ok (.iconst 0, 1) := by decide +kernel
theorem dX10_serviceRefusal_39 : decode cX10_serviceRefusal 39 = .ok (.ireturn, 1) := by decide +kernel
theorem dX10_pass_0 : decode cX10_pass 0 = .ok (.aload_n 0, 1) := by decide +kernel
theorem dX10_pass_1 : decode cX10_pass 1 = .ok (.getfield 79, 3) := by decide +kernel
theorem dX10_pass_4 : decode cX10_pass 4 = .ok (.aload_n 0, 1) := by decide +kernel
theorem dX10_pass_5 : decode cX10_pass 5 = .ok (.getfield 83, 3) := by decide +kernel
theorem dX10_pass_8 : decode cX10_pass 8 = .ok (.iload_n 1, 1) := by decide +kernel
theorem dX10_pass_9 : decode cX10_pass 9 = .ok (.invokevirtual 320, 3) := by decide +kernel
theorem dX10_pass_12 : decode cX10_pass 12 = .ok (.aload_n 0, 1) := by decide +kernel
theorem dX10_pass_13 : decode cX10_pass 13 = .ok (.dup, 1) := by decide +kernel
theorem dX10_pass_14 : decode cX10_pass 14 = .ok (.getfield 83, 3) := by decide +kernel
theorem dX10_pass_17 : decode cX10_pass 17 = .ok (.iload_n 1, 1) := by decide +kernel
theorem dX10_pass_18 : decode cX10_pass 18 = .ok (.iadd, 1) := by decide +kernel
theorem dX10_pass_19 : decode cX10_pass 19 = .ok (.putfield 83, 3) := by decide +kernel
theorem dX10_pass_22 : decode cX10_pass 22 = .ok (.return_, 1) := by decide +kernel
theorem dX10_isLoose_0 : decode cX10_isLoose 0 = .ok (.aload_n 0, 1) := by decide +kernel
theorem dX10_isLoose_1 : decode cX10_isLoose 1 = .ok (.getfield 23, 3) := by decide +kernel
theorem dX10_isLoose_4 : decode cX10_isLoose 4 = .ok (.getfield 232, 3) := by decide +kernel
theorem dX10_isLoose_7 : decode cX10_isLoose 7 = .ok (.iload_n 1, 1) := by decide +kernel
theorem dX10_isLoose_8 : decode cX10_isLoose 8 = .ok (.iaload, 1) := by decide +kernel
theorem dX10_isLoose_9 : decode cX10_isLoose 9 = .ok (.ifCond .ne 32, 3) := by decide +kernel
theorem dX10_isLoose_12 : decode cX10_isLoose 12 = .ok (.aload_n 0, 1) := by decide +kernel
theorem dX10_isLoose_13 : decode cX10_isLoose 13 = .ok (.getfield 23, 3) := by decide +kernel
theorem dX10_isLoose_16 : decode cX10_isLoose 16 = .ok (.getfield 309, 3) := by decide +kernel
theorem dX10_isLoose_19 : decode cX10_isLoose 19 = .ok (.iload_n 1, 1) := by decide +kernel
theorem dX10_isLoose_20 : decode cX10_isLoose 20 = .ok (.iaload, 1) := by decide +kernel
theorem dX10_isLoose_21 : decode cX10_isLoose 21 = .ok (.bipush (-9), 2) := by decide +kernel
theorem dX10_isLoose_23 : decode cX10_isLoose 23 = .ok (.if_icmp .ne 18, 3) := by decide +kernel
theorem dX10_isLoose_26 : decode cX10_isLoose 26 = .ok (.aload_n 0, 1) := by decide +kernel
theorem dX10_isLoose_27 : decode cX10_isLoose 27 = .ok (.getfield 37, 3) := by decide +kernel
theorem dX10_isLoose_30 : decode cX10_isLoose 30 = .ok (.iload_n 1, 1) := by decide +kernel
theorem dX10_isLoose_31 : decode cX10_isLoose 31 = .ok (.invokevirtual 322, 3) := by decide +kernel
theorem dX10_isLoose_34 : decode cX10_isLoose 34 = .ok (.ifCond .ne 7, 3) := by decide +kernel
theorem dX10_isLoose_37 : decode cX10_isLoose 37 = .ok (.iconst 1, 1) := by decide +kernel
theorem dX10_isLoose_38 : decode cX10_isLoose 38 = .ok (.goto 4, 3) := by decide +kernel
theorem dX10_isLoose_41 : decode cX10_isLoose 41 = .ok (.iconst 0, 1) := by decide +kernel
theorem dX10_isLoose_42 : decode cX10_isLoose 42 = .ok (.ireturn, 1) := by decide +kernel
theorem dX10_putIn_0 : decode cX10_putIn 0 = .ok (.aload_n 0, 1) := by decide +kernel
theorem dX10_putIn_1 : decode cX10_putIn 1 = .ok (.getfield 30, 3) := by decide +kernel
theorem dX10_putIn_4 : decode cX10_putIn 4 = .ok (.getfield 157, 3) := by decide +kernel
theorem dX10_putIn_7 : decode cX10_putIn 7 = .ok (.iload_n 2, 1) := by decide +kernel
theorem dX10_putIn_8 : decode cX10_putIn 8 = .ok (.iload_n 1, 1) := by decide +kernel
theorem dX10_putIn_9 : decode cX10_putIn 9 = .ok (.iastore, 1) := by decide +kernel
theorem dX10_putIn_10 : decode cX10_putIn 10 = .ok (.aload_n 0, 1) := by decide +kernel
theorem dX10_putIn_11 : decode cX10_putIn 11 = .ok (.getfield 23, 3) := by decide +kernel
theorem dX10_putIn_14 : decode cX10_putIn 14 = .ok (.getfield 309, 3) := by decide +kernel
theorem dX10_putIn_17 : decode cX10_putIn 17 = .ok (.iload_n 1, 1) := by decide +kernel
theorem dX10_putIn_18 : decode cX10_putIn 18 = .ok (.iload_n 2, 1) := by decide +kernel
theorem dX10_putIn_19 : decode cX10_putIn 19 = .ok (.iastore, 1) := by decide +kernel
theorem dX10_putIn_20 : decode cX10_putIn 20 = .ok (.return_, 1) := by decide +kernel
theorem dX10_takeOut_0 : decode cX10_takeOut 0 = .ok (.aload_n 0, 1) := by decide +kernel
theorem dX10_takeOut_1 : decode cX10_takeOut 1 = .ok (.getfield 30, 3) := by decide +kernel
theorem dX10_takeOut_4 : decode cX10_takeOut 4 = .ok (.getfield 157, 3) := by decide +kernel
theorem dX10_takeOut_7 : decode cX10_takeOut 7 = .ok (.iload_n 2, 1) := by decide +kernel
theorem dX10_takeOut_8 : decode cX10_takeOut 8 = .ok (.bipush (-9), 2) := by decide +kernel
theorem dX10_takeOut_10 : decode cX10_takeOut 10 = .ok (.iastore, 1) := by decide +kernel
theorem dX10_takeOut_11 : decode cX10_takeOut 11 = .ok (.aload_n 0, 1) := by decide +kernel
theorem dX10_takeOut_12 : decode cX10_takeOut 12 = .ok (.getfield 23, 3) := by decide +kernel
theorem dX10_takeOut_15 : decode cX10_takeOut 15 = .ok (.getfield 309, 3) := by decide +kernel
theorem dX10_takeOut_18 : decode cX10_takeOut 18 = .ok (.iload_n 1, 1) := by decide +kernel
theorem dX10_takeOut_19 : decode cX10_takeOut 19 = .ok (.bipush (-9), 2) := by decide +kernel
theorem dX10_takeOut_21 : decode cX10_takeOut 21 = .ok (.iastore, 1) := by decide +kernel
theorem dX10_takeOut_22 : decode cX10_takeOut 22 = .ok (.return_, 1) := by decide +kernel
theorem dX10_learnFits_0 : decode cX10_learnFits 0 = .ok (.aload_n 0, 1) := by decide +kernel
theorem dX10_learnFits_1 : decode cX10_learnFits 1 = .ok (.getfield 30, 3) := by decide +kernel
theorem dX10_learnFits_4 : decode cX10_learnFits 4 = .ok (.aload_n 0, 1) := by decide +kernel
theorem dX10_learnFits_5 : decode cX10_learnFits 5 = .ok (.getfield 30, 3) := by decide +kernel
theorem dX10_learnFits_8 : decode cX10_learnFits 8 = .ok (.getfield 134, 3) := by decide +kernel
theorem dX10_learnFits_11 : decode cX10_learnFits 11 = .ok (.invokevirtual 144, 3) := by decide +kernel
theorem dX10_learnFits_14 : decode cX10_learnFits 14 = .ok (.iconst 0, 1) := by decide +kernel
theorem dX10_learnFits_15 : decode cX10_learnFits 15 = .ok (.istore_n 1, 1) := by decide +kernel
theorem dX10_learnFits_16 : decode cX10_learnFits 16 = .ok (.iload_n 1, 1) := by decide +kernel
theorem dX10_learnFits_17 : decode cX10_learnFits 17 = .ok (.aload_n 0, 1) := by decide +kernel
theorem dX10_learnFits_18 : decode cX10_learnFits 18 = .ok (.getfield 37, 3) := by decide +kernel
theorem dX10_learnFits_21 : decode cX10_learnFits 21 = .ok (.getfield 174, 3) := by decide +kernel
theorem dX10_learnFits_24 : decode cX10_learnFits 24 = .ok (.if_icmp .ge 39, 3) := by decide +kernel
theorem dX10_learnFits_27 : decode cX10_learnFits 27 = .ok (.aload_n 0, 1) := by decide +kernel
theorem dX10_learnFits_28 : decode cX10_learnFits 28 = .ok (.getfield 37, 3) := by decide +kernel
theorem dX10_learnFits_31 : decode cX10_learnFits 31 = .ok (.getfield 325, 3) := by decide +kernel
theorem dX10_learnFits_34 : decode cX10_learnFits 34 = .ok (.iload_n 1, 1) := by decide +kernel
theorem dX10_learnFits_35 : decode cX10_learnFits 35 = .ok (.aload_n 0, 1) := by decide +kernel
theorem dX10_learnFits_36 : decode cX10_learnFits 36 = .ok (.aload_n 0, 1) := by decide +kernel
theorem dX10_learnFits_37 : decode cX10_learnFits 37 = .ok (.getfield 23, 3) := by decide +kernel
theorem dX10_learnFits_40 : decode cX10_learnFits 40 = .ok (.getfield 306, 3) := by decide +kernel
theorem dX10_learnFits_43 : decode cX10_learnFits 43 = .ok (.aload_n 0, 1) := by decide +kernel
theorem dX10_learnFits_44 : decode cX10_learnFits 44 = .ok (.getfield 37, 3) := by decide +kernel
theorem dX10_learnFits_47 : decode cX10_learnFits 47 = .ok (.getfield 193, 3) := by decide +kernel
theorem dX10_learnFits_50 : decode cX10_learnFits 50 = .ok (.iload_n 1, 1) := by decide +kernel
theorem dX10_learnFits_51 : decode cX10_learnFits 51 = .ok (.iaload, 1) := by decide +kernel
theorem dX10_learnFits_52 : decode cX10_learnFits 52 = .ok (.iaload, 1) := by decide +kernel
theorem dX10_learnFits_53 : decode cX10_learnFits 53 = .ok (.invokevirtual 328, 3) := by decide +kernel
theorem dX10_learnFits_56 : decode cX10_learnFits 56 = .ok (.iastore, 1) := by decide +kernel
theorem dX10_learnFits_57 : decode cX10_learnFits 57 = .ok (.iinc 1 1, 3) := by decide +kernel
theorem dX10_learnFits_60 : decode cX10_learnFits 60 = .ok (.goto (-44), 3) := by decide +kernel
theorem dX10_learnFits_63 : decode cX10_learnFits 63 = .ok (.return_, 1) := by decide +kernel
theorem dX10_placesThatFire_0 : decode cX10_placesThatFire 0 = .ok (.iconst 0, 1) := by decide +kernel
theorem dX10_placesThatFire_1 : decode cX10_placesThatFire 1 = .ok (.istore_n 2, 1) := by decide +kernel
theorem dX10_placesThatFire_2 : decode cX10_placesThatFire 2 = .ok (.iconst 0, 1) := by decide +kernel
theorem dX10_placesThatFire_3 : decode cX10_placesThatFire 3 = .ok (.istore_n 3, 1) := by decide +kernel
theorem dX10_placesThatFire_4 : decode cX10_placesThatFire 4 = .ok (.iload_n 3, 1) := by decide +kernel
theorem dX10_placesThatFire_5 : decode cX10_placesThatFire 5 = .ok (.bipush 12, 2) := by decide +kernel
theorem dX10_placesThatFire_7 : decode cX10_placesThatFire 7 = .ok (.if_icmp .ge 49, 3) := by decide +kernel
theorem dX10_placesThatFire_10 : decode cX10_placesThatFire 10 = .ok (.aload_n 0, 1) := by decide +kernel
theorem dX10_placesThatFire_11 : decode cX10_placesThatFire 11 = .ok (.getfield 30, 3) := by decide +kernel
theorem dX10_placesThatFire_14 : decode cX10_placesThatFire 14 = .ok (.getfield 157, 3) := by decide +kernel
theorem dX10_placesThatFire_17 : decode cX10_placesThatFire 17 = .ok (.iload_n 3, 1) := by decide +kernel
theorem dX10_placesThatFire_18 : decode cX10_placesThatFire 18 = .ok (.iaload, 1) := by decide +kernel
theorem dX10_placesThatFire_19 : decode cX10_placesThatFire 19 = .ok (.bipush (-9), 2) := by decide +kernel
theorem dX10_placesThatFire_21 : decode cX10_placesThatFire 21 = .ok (.if_icmp .ne 29, 3) := by decide +kernel
theorem dX10_placesThatFire_24 : decode cX10_placesThatFire 24 = .ok (.aload_n 0, 1) := by decide +kernel
theorem dX10_placesThatFire_25 : decode cX10_placesThatFire 25 = .ok (.getfield 16, 3) := by decide +kernel
theorem dX10_placesThatFire_28 : decode cX10_placesThatFire 28 = .ok (.iload_n 1, 1) := by decide +kernel
theorem dX10_placesThatFire_29 : decode cX10_placesThatFire 29 = .ok (.aload_n 0, 1) := by decide +kernel
theorem dX10_placesThatFire_30 : decode cX10_placesThatFire 30 = .ok (.getfield 30, 3) := by decide +kernel
theorem dX10_placesThatFire_33 : decode cX10_placesThatFire 33 = .ok (.getfield 147, 3) := by decide +kernel
theorem dX10_placesThatFire_36 : decode cX10_placesThatFire 36 = .ok (.iload_n 3, 1) := by decide +kernel
theorem dX10_placesThatFire_37 : decode cX10_placesThatFire 37 = .ok (.iaload, 1) := by decide +kernel
theorem dX10_placesThatFire_38 : decode cX10_placesThatFire 38 = .ok (.invokevirtual 331, 3) := by decide +kernel
theorem dX10_placesThatFire_41 : decode cX10_placesThatFire 41 = .ok (.ifCond .eq 9, 3) := by decide +kernel
theorem dX10_placesThatFire_44 : decode cX10_placesThatFire 44 = .ok (.iload_n 2, 1) := by decide +kernel
theorem dX10_placesThatFire_45 : decode cX10_placesThatFire 45 = .ok (.iconst 1, 1) := by decide +kernel
theorem dX10_placesThatFire_46 : decode cX10_placesThatFire 46 = .ok (.iload_n 3, 1) := by decide +kernel
theorem dX10_placesThatFire_47 : decode cX10_placesThatFire 47 = .ok (.ishl, 1) := by decide +kernel
theorem dX10_placesThatFire_48 : decode cX10_placesThatFire 48 = .ok (.ior, 1) := by decide +kernel
theorem dX10_placesThatFire_49 : decode cX10_placesThatFire 49 = .ok (.istore_n 2, 1) := by decide +kernel
theorem dX10_placesThatFire_50 : decode cX10_placesThatFire 50 = .ok (.iinc 3 1, 3) := by decide +kernel
theorem dX10_placesThatFire_53 : decode cX10_placesThatFire 53 = .ok (.goto (-49), 3) := by decide +kernel
theorem dX10_placesThatFire_56 : decode cX10_placesThatFire 56 = .ok (.iload_n 2, 1) := by decide +kernel
theorem dX10_placesThatFire_57 : decode cX10_placesThatFire 57 = .ok (.ireturn, 1) := by decide +kernel
