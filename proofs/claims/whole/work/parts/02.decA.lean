theorem dX0_init_0 : decode cX0_init 0 = .ok (.aload_n 0, 1) := by decide +kernel
theorem dX0_init_1 : decode cX0_init 1 = .ok (.invokespecial 3, 3) := by decide +kernel
theorem dX0_init_4 : decode cX0_init 4 = .ok (.aload_n 0, 1) := by decide +kernel
theorem dX0_init_5 : decode cX0_init 5 = .ok (.bipush 24, 2) := by decide +kernel
theorem dX0_init_7 : decode cX0_init 7 = .ok (.newarray .int, 2) := by decide +kernel
theorem dX0_init_9 : decode cX0_init 9 = .ok (.putfield 9, 3) := by decide +kernel
theorem dX0_init_12 : decode cX0_init 12 = .ok (.aload_n 0, 1) := by decide +kernel
theorem dX0_init_13 : decode cX0_init 13 = .ok (.bipush 20, 2) := by decide +kernel
theorem dX0_init_15 : decode cX0_init 15 = .ok (.newarray .int, 2) := by decide +kernel
theorem dX0_init_17 : decode cX0_init 17 = .ok (.putfield 15, 3) := by decide +kernel
theorem dX0_init_20 : decode cX0_init 20 = .ok (.aload_n 0, 1) := by decide +kernel
theorem dX0_init_21 : decode cX0_init 21 = .ok (.bipush 20, 2) := by decide +kernel
theorem dX0_init_23 : decode cX0_init 23 = .ok (.newarray .int, 2) := by decide +kernel
theorem dX0_init_25 : decode cX0_init 25 = .ok (.putfield 18, 3) := by decide +kernel
theorem dX0_init_28 : decode cX0_init 28 = .ok (.aload_n 0, 1) := by decide +kernel
theorem dX0_init_29 : decode cX0_init 29 = .ok (.bipush 20, 2) := by decide +kernel
theorem dX0_init_31 : decode cX0_init 31 = .ok (.newarray .int, 2) := by decide +kernel
theorem dX0_init_33 : decode cX0_init 33 = .ok (.putfield 21, 3) := by decide +kernel
theorem dX0_init_36 : decode cX0_init 36 = .ok (.aload_n 0, 1) := by decide +kernel
theorem dX0_init_37 : decode cX0_init 37 = .ok (.iconst 0, 1) := by decide +kernel
theorem dX0_init_38 : decode cX0_init 38 = .ok (.putfield 24, 3) := by decide +kernel
theorem dX0_init_41 : decode cX0_init 41 = .ok (.iconst 0, 1) := by decide +kernel
theorem dX0_init_42 : decode cX0_init 42 = .ok (.istore_n 1, 1) := by decide +kernel
theorem dX0_init_43 : decode cX0_init 43 = .ok (.iload_n 1, 1) := by decide +kernel
theorem dX0_init_44 : decode cX0_init 44 = .ok (.bipush 24, 2) := by decide +kernel
theorem dX0_init_46 : decode cX0_init 46 = .ok (.if_icmp .ge 22, 3) := by decide +kernel
theorem dX0_init_49 : decode cX0_init 49 = .ok (.aload_n 0, 1) := by decide +kernel
theorem dX0_init_50 : decode cX0_init 50 = .ok (.getfield 9, 3) := by decide +kernel
theorem dX0_init_53 : decode cX0_init 53 = .ok (.iload_n 1, 1) := by decide +kernel
theorem dX0_init_54 : decode cX0_init 54 = .ok (.getstatic 28, 3) := by decide +kernel
theorem dX0_init_57 : decode cX0_init 57 = .ok (.iload_n 1, 1) := by decide +kernel
theorem dX0_init_58 : decode cX0_init 58 = .ok (.iconst 4, 1) := by decide +kernel
theorem dX0_init_59 : decode cX0_init 59 = .ok (.irem, 1) := by decide +kernel
theorem dX0_init_60 : decode cX0_init 60 = .ok (.iaload, 1) := by decide +kernel
theorem dX0_init_61 : decode cX0_init 61 = .ok (.iastore, 1) := by decide +kernel
theorem dX0_init_62 : decode cX0_init 62 = .ok (.iinc 1 1, 3) := by decide +kernel
theorem dX0_init_65 : decode cX0_init 65 = .ok (.goto (-22), 3) := by decide +kernel
theorem dX0_init_68 : decode cX0_init 68 = .ok (.return_, 1) := by decide +kernel
theorem dX0_trait_0 : decode cX0_trait 0 = .ok (.aload_n 0, 1) := by decide +kernel
theorem dX0_trait_1 : decode cX0_trait 1 = .ok (.getfield 9, 3) := by decide +kernel
theorem dX0_trait_4 : decode cX0_trait 4 = .ok (.iload_n 1, 1) := by decide +kernel
theorem dX0_trait_5 : decode cX0_trait 5 = .ok (.iconst 4, 1) := by decide +kernel
theorem dX0_trait_6 : decode cX0_trait 6 = .ok (.imul, 1) := by decide +kernel
theorem dX0_trait_7 : decode cX0_trait 7 = .ok (.iload_n 2, 1) := by decide +kernel
theorem dX0_trait_8 : decode cX0_trait 8 = .ok (.iadd, 1) := by decide +kernel
theorem dX0_trait_9 : decode cX0_trait 9 = .ok (.iaload, 1) := by decide +kernel
theorem dX0_trait_10 : decode cX0_trait 10 = .ok (.ireturn, 1) := by decide +kernel
theorem dX0_changeTrait_0 : decode cX0_changeTrait 0 = .ok (.aload_n 0, 1) := by decide +kernel
theorem dX0_changeTrait_1 : decode cX0_changeTrait 1 = .ok (.iload_n 1, 1) := by decide +kernel
theorem dX0_changeTrait_2 : decode cX0_changeTrait 2 = .ok (.iload_n 2, 1) := by decide +kernel
theorem dX0_changeTrait_3 : decode cX0_changeTrait 3 = .ok (.invokevirtual 31, 3) := by decide +kernel
theorem dX0_changeTrait_6 : decode cX0_changeTrait 6 = .ok (.istore 4, 2) := by decide +kernel
theorem dX0_changeTrait_8 : decode cX0_changeTrait 8 = .ok (.aload_n 0, 1) := by decide +kernel
theorem dX0_changeTrait_9 : decode cX0_changeTrait 9 = .ok (.getfield 9, 3) := by decide +kernel
theorem dX0_changeTrait_12 : decode cX0_changeTrait 12 = .ok (.iload_n 1, 1) := by decide +kernel
theorem dX0_changeTrait_13 : decode cX0_changeTrait 13 = .ok (.iconst 4, 1) := by decide +kernel
theorem dX0_changeTrait_14 : decode cX0_changeTrait 14 = .ok (.imul, 1) := by decide +kernel
theorem dX0_changeTrait_15 : decode cX0_changeTrait 15 = .ok (.iload_n 2, 1) := by decide +kernel
theorem dX0_changeTrait_16 : decode cX0_changeTrait 16 = .ok (.iadd, 1) := by decide +kernel
theorem dX0_changeTrait_17 : decode cX0_changeTrait 17 = .ok (.iload_n 3, 1) := by decide +kernel
theorem dX0_changeTrait_18 : decode cX0_changeTrait 18 = .ok (.iastore, 1) := by decide +kernel
theorem dX0_changeTrait_19 : decode cX0_changeTrait 19 = .ok (.iload 4, 2) := by decide +kernel
theorem dX0_changeTrait_21 : decode cX0_changeTrait 21 = .ok (.ireturn, 1) := by decide +kernel
theorem dX0_mix_0 : decode cX0_mix 0 = .ok (.aload_n 0, 1) := by decide +kernel
theorem dX0_mix_1 : decode cX0_mix 1 = .ok (.getfield 15, 3) := by decide +kernel
theorem dX0_mix_4 : decode cX0_mix 4 = .ok (.aload_n 0, 1) := by decide +kernel
theorem dX0_mix_5 : decode cX0_mix 5 = .ok (.getfield 24, 3) := by decide +kernel
theorem dX0_mix_8 : decode cX0_mix 8 = .ok (.iload_n 1, 1) := by decide +kernel
theorem dX0_mix_9 : decode cX0_mix 9 = .ok (.iastore, 1) := by decide +kernel
theorem dX0_mix_10 : decode cX0_mix 10 = .ok (.aload_n 0, 1) := by decide +kernel
theorem dX0_mix_11 : decode cX0_mix 11 = .ok (.getfield 18, 3) := by decide +kernel
theorem dX0_mix_14 : decode cX0_mix 14 = .ok (.aload_n 0, 1) := by decide +kernel
theorem dX0_mix_15 : decode cX0_mix 15 = .ok (.getfield 24, 3) := by decide +kernel
theorem dX0_mix_18 : decode cX0_mix 18 = .ok (.iload_n 2, 1) := by decide +kernel
theorem dX0_mix_19 : decode cX0_mix 19 = .ok (.iastore, 1) := by decide +kernel
theorem dX0_mix_20 : decode cX0_mix 20 = .ok (.aload_n 0, 1) := by decide +kernel
theorem dX0_mix_21 : decode cX0_mix 21 = .ok (.getfield 21, 3) := by decide +kernel
theorem dX0_mix_24 : decode cX0_mix 24 = .ok (.aload_n 0, 1) := by decide +kernel
theorem dX0_mix_25 : decode cX0_mix 25 = .ok (.getfield 24, 3) := by decide +kernel
theorem dX0_mix_28 : decode cX0_mix 28 = .ok (.iload_n 3, 1) := by decide +kernel
theorem dX0_mix_29 : decode cX0_mix 29 = .ok (.iastore, 1) := by decide +kernel
theorem dX0_mix_30 : decode cX0_mix 30 = .ok (.aload_n 0, 1) := by decide +kernel
theorem dX0_mix_31 : decode cX0_mix 31 = .ok (.dup, 1) := by decide +kernel
theorem dX0_mix_32 : decode cX0_mix 32 = .ok (.getfield 24, 3) := by decide +kernel
theorem dX0_mix_35 : decode cX0_mix 35 = .ok (.iconst 1, 1) := by decide +kernel
theorem dX0_mix_36 : decode cX0_mix 36 = .ok (.iadd, 1) := by decide +kernel
theorem dX0_mix_37 : decode cX0_mix 37 = .ok (.putfield 24, 3) := by decide +kernel
theorem dX0_mix_40 : decode cX0_mix 40 = .ok (.aload_n 0, 1) := by decide +kernel
theorem dX0_mix_41 : decode cX0_mix 41 = .ok (.getfield 24, 3) := by decide +kernel
theorem dX0_mix_44 : decode cX0_mix 44 = .ok (.iconst 1, 1) := by decide +kernel
theorem dX0_mix_45 : decode cX0_mix 45 = .ok (.isub, 1) := by decide +kernel
theorem dX0_mix_46 : decode cX0_mix 46 = .ok (.ireturn, 1) := by decide +kernel
theorem dX0_isRipe_0 : decode cX0_isRipe 0 = .ok (.iload_n 2, 1) := by decide +kernel
theorem dX0_isRipe_1 : decode cX0_isRipe 1 = .ok (.aload_n 0, 1) := by decide +kernel
theorem dX0_isRipe_2 : decode cX0_isRipe 2 = .ok (.getfield 21, 3) := by decide +kernel
theorem dX0_isRipe_5 : decode cX0_isRipe 5 = .ok (.iload_n 1, 1) := by decide +kernel
theorem dX0_isRipe_6 : decode cX0_isRipe 6 = .ok (.iaload, 1) := by decide +kernel
theorem dX0_isRipe_7 : decode cX0_isRipe 7 = .ok (.isub, 1) := by decide +kernel
theorem dX0_isRipe_8 : decode cX0_isRipe 8 = .ok (.aload_n 0, 1) := by decide +kernel
theorem dX0_isRipe_9 : decode cX0_isRipe 9 = .ok (.aload_n 0, 1) := by decide +kernel
theorem dX0_isRipe_10 : decode cX0_isRipe 10 = .ok (.getfield 15, 3) := by decide +kernel
theorem dX0_isRipe_13 : decode cX0_isRipe 13 = .ok (.iload_n 1, 1) := by decide +kernel
theorem dX0_isRipe_14 : decode cX0_isRipe 14 = .ok (.iaload, 1) := by decide +kernel
theorem dX0_isRipe_15 : decode cX0_isRipe 15 = .ok (.iconst 0, 1) := by decide +kernel
theorem dX0_isRipe_16 : decode cX0_isRipe 16 = .ok (.invokevirtual 31, 3) := by decide +kernel
theorem dX0_isRipe_19 : decode cX0_isRipe 19 = .ok (.if_icmp .lt 7, 3) := by decide +kernel
theorem dX0_isRipe_22 : decode cX0_isRipe 22 = .ok (.iconst 1, 1) := by decide +kernel
theorem dX0_isRipe_23 : decode cX0_isRipe 23 = .ok (.goto 4, 3) := by decide +kernel
theorem dX0_isRipe_26 : decode cX0_isRipe 26 = .ok (.iconst 0, 1) := by decide +kernel
theorem dX0_isRipe_27 : decode cX0_isRipe 27 = .ok (.ireturn, 1) := by decide +kernel
theorem dX0_bears_0 : decode cX0_bears 0 = .ok (.iload_n 2, 1) := by decide +kernel
theorem dX0_bears_1 : decode cX0_bears 1 = .ok (.aload_n 0, 1) := by decide +kernel
theorem dX0_bears_2 : decode cX0_bears 2 = .ok (.iload_n 1, 1) := by decide +kernel
theorem dX0_bears_3 : decode cX0_bears 3 = .ok (.iconst 2, 1) := by decide +kernel
theorem dX0_bears_4 : decode cX0_bears 4 = .ok (.invokevirtual 31, 3) := by decide +kernel
theorem dX0_bears_7 : decode cX0_bears 7 = .ok (.if_icmp .lt 17, 3) := by decide +kernel
theorem dX0_bears_10 : decode cX0_bears 10 = .ok (.iload_n 2, 1) := by decide +kernel
theorem dX0_bears_11 : decode cX0_bears 11 = .ok (.aload_n 0, 1) := by decide +kernel
theorem dX0_bears_12 : decode cX0_bears 12 = .ok (.iload_n 1, 1) := by decide +kernel
theorem dX0_bears_13 : decode cX0_bears 13 = .ok (.iconst 3, 1) := by decide +kernel
theorem dX0_bears_14 : decode cX0_bears 14 = .ok (.invokevirtual 31, 3) := by decide +kernel
theorem dX0_bears_17 : decode cX0_bears 17 = .ok (.if_icmp .gt 7, 3) := by decide +kernel
theorem dX0_bears_20 : decode cX0_bears 20 = .ok (.iconst 1, 1) := by decide +kernel
theorem dX0_bears_21 : decode cX0_bears 21 = .ok (.goto 4, 3) := by decide +kernel
theorem dX0_bears_24 : decode cX0_bears 24 = .ok (.iconst 0, 1) := by decide +kernel
theorem dX0_bears_25 : decode cX0_bears 25 = .ok (.ireturn, 1) := by decide +kernel
theorem dX0_shrunk_0 : decode cX0_shrunk 0 = .ok (.iload_n 2, 1) := by decide +kernel
theorem dX0_shrunk_1 : decode cX0_shrunk 1 = .ok (.iload_n 2, 1) := by decide +kernel
theorem dX0_shrunk_2 : decode cX0_shrunk 2 = .ok (.aload_n 0, 1) := by decide +kernel
theorem dX0_shrunk_3 : decode cX0_shrunk 3 = .ok (.iload_n 1, 1) := by decide +kernel
theorem dX0_shrunk_4 : decode cX0_shrunk 4 = .ok (.iconst 1, 1) := by decide +kernel
theorem dX0_shrunk_5 : decode cX0_shrunk 5 = .ok (.invokevirtual 31, 3) := by decide +kernel
theorem dX0_shrunk_8 : decode cX0_shrunk 8 = .ok (.imul, 1) := by decide +kernel
theorem dX0_shrunk_9 : decode cX0_shrunk 9 = .ok (.sipush 1000, 3) := by decide +kernel
theorem dX0_shrunk_12 : decode cX0_shrunk 12 = .ok (.idiv, 1) := by decide +kernel
theorem dX0_shrunk_13 : decode cX0_shrunk 13 = .ok (.isub, 1) := by decide +kernel
theorem dX0_shrunk_14 : decode cX0_shrunk 14 = .ok (.ireturn, 1) := by decide +kernel
theorem dX0_whiteAt_0 : decode cX0_whiteAt 0 = .ok (.aload_n 0, 1) := by decide +kernel
theorem dX0_whiteAt_1 : decode cX0_whiteAt 1 = .ok (.iload_n 1, 1) := by decide +kernel
theorem dX0_whiteAt_2 : decode cX0_whiteAt 2 = .ok (.iconst 2, 1) := by decide +kernel
theorem dX0_whiteAt_3 : decode cX0_whiteAt 3 = .ok (.invokevirtual 31, 3) := by decide +kernel
theorem dX0_whiteAt_6 : decode cX0_whiteAt 6 = .ok (.aload_n 0, 1) := by decide +kernel
theorem dX0_whiteAt_7 : decode cX0_whiteAt 7 = .ok (.iload_n 1, 1) := by decide +kernel
theorem dX0_whiteAt_8 : decode cX0_whiteAt 8 = .ok (.iconst 3, 1) := by decide +kernel
theorem dX0_whiteAt_9 : decode cX0_whiteAt 9 = .ok (.invokevirtual 31, 3) := by decide +kernel
theorem dX0_whiteAt_12 : decode cX0_whiteAt 12 = .ok (.iadd, 1) := by decide +kernel
theorem dX0_whiteAt_13 : decode cX0_whiteAt 13 = .ok (.iconst 2, 1) := by decide +kernel
theorem dX0_whiteAt_14 : decode cX0_whiteAt 14 = .ok (.idiv, 1) := by decide +kernel
theorem dX0_whiteAt_15 : decode cX0_whiteAt 15 = .ok (.istore_n 3, 1) := by decide +kernel
theorem dX0_whiteAt_16 : decode cX0_whiteAt 16 = .ok (.iconst 0, 1) := by decide +kernel
theorem dX0_whiteAt_17 : decode cX0_whiteAt 17 = .ok (.bipush 100, 2) := by decide +kernel
theorem dX0_whiteAt_19 : decode cX0_whiteAt 19 = .ok (.iload_n 2, 1) := by decide +kernel
theorem dX0_whiteAt_20 : decode cX0_whiteAt 20 = .ok (.iload_n 3, 1) := by decide +kernel
theorem dX0_whiteAt_21 : decode cX0_whiteAt 21 = .ok (.isub, 1) := by decide +kernel
theorem dX0_whiteAt_22 : decode cX0_whiteAt 22 = .ok (.invokestatic 35, 3) := by decide +kernel
theorem dX0_whiteAt_25 : decode cX0_whiteAt 25 = .ok (.iconst 5, 1) := by decide +kernel
theorem dX0_whiteAt_26 : decode cX0_whiteAt 26 = .ok (.idiv, 1) := by decide +kernel
theorem dX0_whiteAt_27 : decode cX0_whiteAt 27 = .ok (.isub, 1) := by decide +kernel
theorem dX0_whiteAt_28 : decode cX0_whiteAt 28 = .ok (.invokestatic 41, 3) := by decide +kernel
theorem dX0_whiteAt_31 : decode cX0_whiteAt 31 = .ok (.ireturn, 1) := by decide +kernel
theorem dX1_init_0 : decode cX1_init 0 = .ok (.aload_n 0, 1) := by decide +kernel
theorem dX1_init_1 : decode cX1_init 1 = .ok (.invokespecial 3, 3) := by decide +kernel
theorem dX1_init_4 : decode cX1_init 4 = .ok (.aload_n 0, 1) := by decide +kernel
theorem dX1_init_5 : decode cX1_init 5 = .ok (.bipush 24, 2) := by decide +kernel
theorem dX1_init_7 : decode cX1_init 7 = .ok (.newarray .int, 2) := by decide +kernel
theorem dX1_init_9 : decode cX1_init 9 = .ok (.putfield 9, 3) := by decide +kernel
theorem dX1_init_12 : decode cX1_init 12 = .ok (.aload_n 0, 1) := by decide +kernel
theorem dX1_init_13 : decode cX1_init 13 = .ok (.bipush 12, 2) := by decide +kernel
theorem dX1_init_15 : decode cX1_init 15 = .ok (.newarray .int, 2) := by decide +kernel
theorem dX1_init_17 : decode cX1_init 17 = .ok (.putfield 15, 3) := by decide +kernel
theorem dX1_init_20 : decode cX1_init 20 = .ok (.aload_n 0, 1) := by decide +kernel
theorem dX1_init_21 : decode cX1_init 21 = .ok (.bipush 12, 2) := by decide +kernel
theorem dX1_init_23 : decode cX1_init 23 = .ok (.newarray .int, 2) := by decide +kernel
theorem dX1_init_25 : decode cX1_init 25 = .ok (.putfield 18, 3) := by decide +kernel
theorem dX1_init_28 : decode cX1_init 28 = .ok (.aload_n 0, 1) := by decide +kernel
theorem dX1_init_29 : decode cX1_init 29 = .ok (.bipush 12, 2) := by decide +kernel
theorem dX1_init_31 : decode cX1_init 31 = .ok (.newarray .int, 2) := by decide +kernel
theorem dX1_init_33 : decode cX1_init 33 = .ok (.putfield 21, 3) := by decide +kernel
theorem dX1_init_36 : decode cX1_init 36 = .ok (.aload_n 0, 1) := by decide +kernel
theorem dX1_init_37 : decode cX1_init 37 = .ok (.bipush 12, 2) := by decide +kernel
theorem dX1_init_39 : decode cX1_init 39 = .ok (.newarray .int, 2) := by decide +kernel
theorem dX1_init_41 : decode cX1_init 41 = .ok (.putfield 24, 3) := by decide +kernel
theorem dX1_init_44 : decode cX1_init 44 = .ok (.aload_n 0, 1) := by decide +kernel
theorem dX1_init_45 : decode cX1_init 45 = .ok (.bipush 48, 2) := by decide +kernel
theorem dX1_init_47 : decode cX1_init 47 = .ok (.newarray .int, 2) := by decide +kernel
theorem dX1_init_49 : decode cX1_init 49 = .ok (.putfield 27, 3) := by decide +kernel
theorem dX1_init_52 : decode cX1_init 52 = .ok (.aload_n 0, 1) := by decide +kernel
theorem dX1_init_53 : decode cX1_init 53 = .ok (.iconst 0, 1) := by decide +kernel
theorem dX1_init_54 : decode cX1_init 54 = .ok (.putfield 30, 3) := by decide +kernel
theorem dX1_init_57 : decode cX1_init 57 = .ok (.aload_n 0, 1) := by decide +kernel
theorem dX1_init_58 : decode cX1_init 58 = .ok (.iconst 0, 1) := by decide +kernel
theorem dX1_init_59 : decode cX1_init 59 = .ok (.putfield 34, 3) := by decide +kernel
theorem dX1_init_62 : decode cX1_init 62 = .ok (.iconst 0, 1) := by decide +kernel
theorem dX1_init_63 : decode cX1_init 63 = .ok (.istore_n 1, 1) := by decide +kernel
theorem dX1_init_64 : decode cX1_init 64 = .ok (.iload_n 1, 1) := by decide +kernel
theorem dX1_init_65 : decode cX1_init 65 = .ok (.bipush 24, 2) := by decide +kernel
theorem dX1_init_67 : decode cX1_init 67 = .ok (.if_icmp .ge 22, 3) := by decide +kernel
theorem dX1_init_70 : decode cX1_init 70 = .ok (.aload_n 0, 1) := by decide +kernel
theorem dX1_init_71 : decode cX1_init 71 = .ok (.getfield 9, 3) := by decide +kernel
theorem dX1_init_74 : decode cX1_init 74 = .ok (.iload_n 1, 1) := by decide +kernel
theorem dX1_init_75 : decode cX1_init 75 = .ok (.getstatic 37, 3) := by decide +kernel
theorem dX1_init_78 : decode cX1_init 78 = .ok (.iload_n 1, 1) := by decide +kernel
theorem dX1_init_79 : decode cX1_init 79 = .ok (.iconst 2, 1) := by decide +kernel
theorem dX1_init_80 : decode cX1_init 80 = .ok (.irem, 1) := by decide +kernel
theorem dX1_init_81 : decode cX1_init 81 = .ok (.iaload, 1) := by decide +kernel
theorem dX1_init_82 : decode cX1_init 82 = .ok (.iastore, 1) := by decide +kernel
theorem dX1_init_83 : decode cX1_init 83 = .ok (.iinc 1 1, 3) := by decide +kernel
theorem dX1_init_86 : decode cX1_init 86 = .ok (.goto (-22), 3) := by decide +kernel
theorem dX1_init_89 : decode cX1_init 89 = .ok (.iconst 0, 1) := by decide +kernel
theorem dX1_init_90 : decode cX1_init 90 = .ok (.istore_n 1, 1) := by decide +kernel
theorem dX1_init_91 : decode cX1_init 91 = .ok (.iload_n 1, 1) := by decide +kernel
theorem dX1_init_92 : decode cX1_init 92 = .ok (.bipush 12, 2) := by decide +kernel
theorem dX1_init_94 : decode cX1_init 94 = .ok (.if_icmp .ge 17, 3) := by decide +kernel
theorem dX1_init_97 : decode cX1_init 97 = .ok (.aload_n 0, 1) := by decide +kernel
theorem dX1_init_98 : decode cX1_init 98 = .ok (.getfield 15, 3) := by decide +kernel
theorem dX1_init_101 : decode cX1_init 101 = .ok (.iload_n 1, 1) := by decide +kernel
theorem dX1_init_102 : decode cX1_init 102 = .ok (.bipush (-9), 2) := by decide +kernel
theorem dX1_init_104 : decode cX1_init 104 = .ok (.iastore, 1) := by decide +kernel
theorem dX1_init_105 : decode cX1_init 105 = .ok (.iinc 1 1, 3) := by decide +kernel
theorem dX1_init_108 : decode cX1_init 108 = .ok (.goto (-17), 3) := by decide +kernel
theorem dX1_init_111 : decode cX1_init 111 = .ok (.return_, 1) := by decide +kernel
theorem dX1_trait_0 : decode cX1_trait 0 = .ok (.aload_n 0, 1) := by decide +kernel
theorem dX1_trait_1 : decode cX1_trait 1 = .ok (.getfield 9, 3) := by decide +kernel
theorem dX1_trait_4 : decode cX1_trait 4 = .ok (.iload_n 1, 1) := by decide +kernel
theorem dX1_trait_5 : decode cX1_trait 5 = .ok (.iconst 2, 1) := by decide +kernel
theorem dX1_trait_6 : decode cX1_trait 6 = .ok (.imul, 1) := by decide +kernel
theorem dX1_trait_7 : decode cX1_trait 7 = .ok (.iload_n 2, 1) := by decide +kernel
theorem dX1_trait_8 : decode cX1_trait 8 = .ok (.iadd, 1) := by decide +kernel
theorem dX1_trait_9 : decode cX1_trait 9 = .ok (.iaload, 1) := by decide +kernel
theorem dX1_trait_10 : decode cX1_trait 10 = .ok (.ireturn, 1) := by decide +kernel
theorem dX1_changeTrait_0 : decode cX1_changeTrait 0 = .ok (.aload_n 0, 1) := by decide +kernel
theorem dX1_changeTrait_1 : decode cX1_changeTrait 1 = .ok (.iload_n 1, 1) := by decide +kernel
theorem dX1_changeTrait_2 : decode cX1_changeTrait 2 = .ok (.iload_n 2, 1) := by decide +kernel
theorem dX1_changeTrait_3 : decode cX1_changeTrait 3 = .ok (.invokevirtual 40, 3) := by decide +kernel
theorem dX1_changeTrait_6 : decode cX1_changeTrait 6 = .ok (.istore 4, 2) := by decide +kernel
theorem dX1_changeTrait_8 : decode cX1_changeTrait 8 = .ok (.aload_n 0, 1) := by decide +kernel
theorem dX1_changeTrait_9 : decode cX1_changeTrait 9 = .ok (.getfield 9, 3) := by decide +kernel
theorem dX1_changeTrait_12 : decode cX1_changeTrait 12 = .ok (.iload_n 1, 1) := by decide +kernel
theorem dX1_changeTrait_13 : decode cX1_changeTrait 13 = .ok (.iconst 2, 1) := by decide +kernel
theorem dX1_changeTrait_14 : decode cX1_changeTrait 14 = .ok (.imul, 1) := by decide +kernel
theorem dX1_changeTrait_15 : decode cX1_changeTrait 15 = .ok (.iload_n 2, 1) := by decide +kernel
theorem dX1_changeTrait_16 : decode cX1_changeTrait 16 = .ok (.iadd, 1) := by decide +kernel
theorem dX1_changeTrait_17 : decode cX1_changeTrait 17 = .ok (.iload_n 3, 1) := by decide +kernel
theorem dX1_changeTrait_18 : decode cX1_changeTrait 18 = .ok (.iastore, 1) := by decide +kernel
theorem dX1_changeTrait_19 : decode cX1_changeTrait 19 = .ok (.iload 4, 2) := by decide +kernel
theorem dX1_changeTrait_21 : decode cX1_changeTrait 21 = .ok (.ireturn, 1) := by decide +kernel
theorem dX1_tellHour_0 : decode cX1_tellHour 0 = .ok (.aload_n 0, 1) := by decide +kernel
theorem dX1_tellHour_1 : decode cX1_tellHour 1 = .ok (.getfield 27, 3) := by decide +kernel
theorem dX1_tellHour_4 : decode cX1_tellHour 4 = .ok (.aload_n 0, 1) := by decide +kernel
theorem dX1_tellHour_5 : decode cX1_tellHour 5 = .ok (.getfield 30, 3) := by decide +kernel
theorem dX1_tellHour_8 : decode cX1_tellHour 8 = .ok (.iload_n 1, 1) := by decide +kernel
theorem dX1_tellHour_9 : decode cX1_tellHour 9 = .ok (.iastore, 1) := by decide +kernel
theorem dX1_tellHour_10 : decode cX1_tellHour 10 = .ok (.aload_n 0, 1) := by decide +kernel
theorem dX1_tellHour_11 : decode cX1_tellHour 11 = .ok (.dup, 1) := by decide +kernel
theorem dX1_tellHour_12 : decode cX1_tellHour 12 = .ok (.getfield 30, 3) := by decide +kernel
theorem dX1_tellHour_15 : decode cX1_tellHour 15 = .ok (.iconst 1, 1) := by decide +kernel
theorem dX1_tellHour_16 : decode cX1_tellHour 16 = .ok (.iadd, 1) := by decide +kernel
theorem dX1_tellHour_17 : decode cX1_tellHour 17 = .ok (.putfield 30, 3) := by decide +kernel
theorem dX1_tellHour_20 : decode cX1_tellHour 20 = .ok (.aload_n 0, 1) := by decide +kernel
theorem dX1_tellHour_21 : decode cX1_tellHour 21 = .ok (.getfield 30, 3) := by decide +kernel
theorem dX1_tellHour_24 : decode cX1_tellHour 24 = .ok (.ireturn, 1) := by decide +kernel
theorem dX1_forgetHours_0 : decode cX1_forgetHours 0 = .ok (.aload_n 0, 1) := by decide +kernel
theorem dX1_forgetHours_1 : decode cX1_forgetHours 1 = .ok (.getfield 30, 3) := by decide +kernel
theorem dX1_forgetHours_4 : decode cX1_forgetHours 4 = .ok (.istore_n 1, 1) := by decide +kernel
theorem dX1_forgetHours_5 : decode cX1_forgetHours 5 = .ok (.aload_n 0, 1) := by decide +kernel
theorem dX1_forgetHours_6 : decode cX1_forgetHours 6 = .ok (.iconst 0, 1) := by decide +kernel
theorem dX1_forgetHours_7 : decode cX1_forgetHours 7 = .ok (.putfield 30, 3) := by decide +kernel
theorem dX1_forgetHours_10 : decode cX1_forgetHours 10 = .ok (.iload_n 1, 1) := by decide +kernel
theorem dX1_forgetHours_11 : decode cX1_forgetHours 11 = .ok (.ireturn, 1) := by decide +kernel
theorem dX1_burnHours_0 : decode cX1_burnHours 0 = .ok (.iconst 0, 1) := by decide +kernel
theorem dX1_burnHours_1 : decode cX1_burnHours 1 = .ok (.istore_n 1, 1) := by decide +kernel
theorem dX1_burnHours_2 : decode cX1_burnHours 2 = .ok (.iload_n 1, 1) := by decide +kernel
theorem dX1_burnHours_3 : decode cX1_burnHours 3 = .ok (.aload_n 0, 1) := by decide +kernel
theorem dX1_burnHours_4 : decode cX1_burnHours 4 = .ok (.getfield 30, 3) := by decide +kernel
theorem dX1_burnHours_7 : decode cX1_burnHours 7 = .ok (.if_icmp .ge 24, 3) := by decide +kernel
theorem dX1_burnHours_10 : decode cX1_burnHours 10 = .ok (.aload_n 0, 1) := by decide +kernel
theorem dX1_burnHours_11 : decode cX1_burnHours 11 = .ok (.dup, 1) := by decide +kernel
theorem dX1_burnHours_12 : decode cX1_burnHours 12 = .ok (.getfield 34, 3) := by decide +kernel
theorem dX1_burnHours_15 : decode cX1_burnHours 15 = .ok (.aload_n 0, 1) := by decide +kernel
theorem dX1_burnHours_16 : decode cX1_burnHours 16 = .ok (.getfield 27, 3) := by decide +kernel
theorem dX1_burnHours_19 : decode cX1_burnHours 19 = .ok (.iload_n 1, 1) := by decide +kernel
theorem dX1_burnHours_20 : decode cX1_burnHours 20 = .ok (.iaload, 1) := by decide +kernel
theorem dX1_burnHours_21 : decode cX1_burnHours 21 = .ok (.iadd, 1) := by decide +kernel
theorem dX1_burnHours_22 : decode cX1_burnHours 22 = .ok (.putfield 34, 3) := by decide +kernel
theorem dX1_burnHours_25 : decode cX1_burnHours 25 = .ok (.iinc 1 1, 3) := by decide +kernel
theorem dX1_burnHours_28 : decode cX1_burnHours 28 = .ok (.goto (-26), 3) := by decide +kernel
theorem dX1_burnHours_31 : decode cX1_burnHours 31 = .ok (.aload_n 0, 1) := by decide +kernel
theorem dX1_burnHours_32 : decode cX1_burnHours 32 = .ok (.iconst 0, 1) := by decide +kernel
theorem dX1_burnHours_33 : decode cX1_burnHours 33 = .ok (.putfield 30, 3) := by decide +kernel
theorem dX1_burnHours_36 : decode cX1_burnHours 36 = .ok (.return_, 1) := by decide +kernel
theorem dX1_heatUp_0 : decode cX1_heatUp 0 = .ok (.iconst 0, 1) := by decide +kernel
theorem dX1_heatUp_1 : decode cX1_heatUp 1 = .ok (.istore_n 2, 1) := by decide +kernel
theorem dX1_heatUp_2 : decode cX1_heatUp 2 = .ok (.iload_n 2, 1) := by decide +kernel
theorem dX1_heatUp_3 : decode cX1_heatUp 3 = .ok (.bipush 12, 2) := by decide +kernel
theorem dX1_heatUp_5 : decode cX1_heatUp 5 = .ok (.if_icmp .ge 23, 3) := by decide +kernel
theorem dX1_heatUp_8 : decode cX1_heatUp 8 = .ok (.aload_n 0, 1) := by decide +kernel
theorem dX1_heatUp_9 : decode cX1_heatUp 9 = .ok (.getfield 18, 3) := by decide +kernel
theorem dX1_heatUp_12 : decode cX1_heatUp 12 = .ok (.iload_n 2, 1) := by decide +kernel
theorem dX1_heatUp_13 : decode cX1_heatUp 13 = .ok (.iconst 0, 1) := by decide +kernel
theorem dX1_heatUp_14 : decode cX1_heatUp 14 = .ok (.iastore, 1) := by decide +kernel
theorem dX1_heatUp_15 : decode cX1_heatUp 15 = .ok (.aload_n 0, 1) := by decide +kernel
theorem dX1_heatUp_16 : decode cX1_heatUp 16 = .ok (.getfield 24, 3) := by decide +kernel
theorem dX1_heatUp_19 : decode cX1_heatUp 19 = .ok (.iload_n 2, 1) := by decide +kernel
theorem dX1_heatUp_20 : decode cX1_heatUp 20 = .ok (.iconst 0, 1) := by decide +kernel
theorem dX1_heatUp_21 : decode cX1_heatUp 21 = .ok (.iastore, 1) := by decide +kernel
theorem dX1_heatUp_22 : decode cX1_heatUp 22 = .ok (.iinc 2 1, 3) := by decide +kernel
theorem dX1_heatUp_25 : decode cX1_heatUp 25 = .ok (.goto (-23), 3) := by decide +kernel
theorem dX1_heatUp_28 : decode cX1_heatUp 28 = .ok (.iconst 0, 1) := by decide +kernel
theorem dX1_heatUp_29 : decode cX1_heatUp 29 = .ok (.istore_n 2, 1) := by decide +kernel
theorem dX1_heatUp_30 : decode cX1_heatUp 30 = .ok (.iload_n 2, 1) := by decide +kernel
theorem dX1_heatUp_31 : decode cX1_heatUp 31 = .ok (.iload_n 1, 1) := by decide +kernel
theorem dX1_heatUp_32 : decode cX1_heatUp 32 = .ok (.if_icmp .ge 19, 3) := by decide +kernel
theorem dX1_heatUp_35 : decode cX1_heatUp 35 = .ok (.aload_n 0, 1) := by decide +kernel
theorem dX1_heatUp_36 : decode cX1_heatUp 36 = .ok (.aload_n 0, 1) := by decide +kernel
theorem dX1_heatUp_37 : decode cX1_heatUp 37 = .ok (.getfield 27, 3) := by decide +kernel
theorem dX1_heatUp_40 : decode cX1_heatUp 40 = .ok (.iload_n 2, 1) := by decide +kernel
theorem dX1_heatUp_41 : decode cX1_heatUp 41 = .ok (.iaload, 1) := by decide +kernel
theorem dX1_heatUp_42 : decode cX1_heatUp 42 = .ok (.invokevirtual 44, 3) := by decide +kernel
theorem dX1_heatUp_45 : decode cX1_heatUp 45 = .ok (.iinc 2 1, 3) := by decide +kernel
theorem dX1_heatUp_48 : decode cX1_heatUp 48 = .ok (.goto (-18), 3) := by decide +kernel
theorem dX1_heatUp_51 : decode cX1_heatUp 51 = .ok (.return_, 1) := by decide +kernel
theorem dX1_heatHour_0 : decode cX1_heatHour 0 = .ok (.iconst 0, 1) := by decide +kernel
theorem dX1_heatHour_1 : decode cX1_heatHour 1 = .ok (.istore_n 2, 1) := by decide +kernel
theorem dX1_heatHour_2 : decode cX1_heatHour 2 = .ok (.iload_n 2, 1) := by decide +kernel
theorem dX1_heatHour_3 : decode cX1_heatHour 3 = .ok (.bipush 12, 2) := by decide +kernel
theorem dX1_heatHour_5 : decode cX1_heatHour 5 = .ok (.if_icmp .ge 48, 3) := by decide +kernel
theorem dX1_heatHour_8 : decode cX1_heatHour 8 = .ok (.aload_n 0, 1) := by decide +kernel
theorem dX1_heatHour_9 : decode cX1_heatHour 9 = .ok (.getfield 21, 3) := by decide +kernel
theorem dX1_heatHour_12 : decode cX1_heatHour 12 = .ok (.iload_n 2, 1) := by decide +kernel
theorem dX1_heatHour_13 : decode cX1_heatHour 13 = .ok (.aload_n 0, 1) := by decide +kernel
theorem dX1_heatHour_14 : decode cX1_heatHour 14 = .ok (.getfield 18, 3) := by decide +kernel
theorem dX1_heatHour_17 : decode cX1_heatHour 17 = .ok (.iload_n 2, 1) := by decide +kernel
theorem dX1_heatHour_18 : decode cX1_heatHour 18 = .ok (.iaload, 1) := by decide +kernel
theorem dX1_heatHour_19 : decode cX1_heatHour 19 = .ok (.aload_n 0, 1) := by decide +kernel
theorem dX1_heatHour_20 : decode cX1_heatHour 20 = .ok (.iload_n 2, 1) := by decide +kernel
theorem dX1_heatHour_21 : decode cX1_heatHour 21 = .ok (.iconst 0, 1) := by decide +kernel
theorem dX1_heatHour_22 : decode cX1_heatHour 22 = .ok (.invokevirtual 40, 3) := by decide +kernel
theorem dX1_heatHour_25 : decode cX1_heatHour 25 = .ok (.iload_n 1, 1) := by decide +kernel
theorem dX1_heatHour_26 : decode cX1_heatHour 26 = .ok (.imul, 1) := by decide +kernel
theorem dX1_heatHour_27 : decode cX1_heatHour 27 = .ok (.iadd, 1) := by decide +kernel
theorem dX1_heatHour_28 : decode cX1_heatHour 28 = .ok (.aload_n 0, 1) := by decide +kernel
theorem dX1_heatHour_29 : decode cX1_heatHour 29 = .ok (.getfield 18, 3) := by decide +kernel
theorem dX1_heatHour_32 : decode cX1_heatHour 32 = .ok (.iload_n 2, 1) := by decide +kernel
theorem dX1_heatHour_33 : decode cX1_heatHour 33 = .ok (.iaload, 1) := by decide +kernel
theorem dX1_heatHour_34 : decode cX1_heatHour 34 = .ok (.aload_n 0, 1) := by decide +kernel
theorem dX1_heatHour_35 : decode cX1_heatHour 35 = .ok (.iload_n 2, 1) := by decide +kernel
theorem dX1_heatHour_36 : decode cX1_heatHour 36 = .ok (.iconst 1, 1) := by decide +kernel
theorem dX1_heatHour_37 : decode cX1_heatHour 37 = .ok (.invokevirtual 40, 3) := by decide +kernel
theorem dX1_heatHour_40 : decode cX1_heatHour 40 = .ok (.imul, 1) := by decide +kernel
theorem dX1_heatHour_41 : decode cX1_heatHour 41 = .ok (.sipush 1000, 3) := by decide +kernel
theorem dX1_heatHour_44 : decode cX1_heatHour 44 = .ok (.idiv, 1) := by decide +kernel
theorem dX1_heatHour_45 : decode cX1_heatHour 45 = .ok (.isub, 1) := by decide +kernel
theorem dX1_heatHour_46 : decode cX1_heatHour 46 = .ok (.iastore, 1) := by decide +kernel
theorem dX1_heatHour_47 : decode cX1_heatHour 47 = .ok (.iinc 2 1, 3) := by decide +kernel
theorem dX1_heatHour_50 : decode cX1_heatHour 50 = .ok (.goto (-48), 3) := by decide +kernel
theorem dX1_heatHour_53 : decode cX1_heatHour 53 = .ok (.iconst 0, 1) := by decide +kernel
theorem dX1_heatHour_54 : decode cX1_heatHour 54 = .ok (.istore_n 2, 1) := by decide +kernel
theorem dX1_heatHour_55 : decode cX1_heatHour 55 = .ok (.iload_n 2, 1) := by decide +kernel
theorem dX1_heatHour_56 : decode cX1_heatHour 56 = .ok (.bipush 12, 2) := by decide +kernel
theorem dX1_heatHour_58 : decode cX1_heatHour 58 = .ok (.if_icmp .ge 51, 3) := by decide +kernel
theorem dX1_heatHour_61 : decode cX1_heatHour 61 = .ok (.aload_n 0, 1) := by decide +kernel
theorem dX1_heatHour_62 : decode cX1_heatHour 62 = .ok (.getfield 18, 3) := by decide +kernel
theorem dX1_heatHour_65 : decode cX1_heatHour 65 = .ok (.iload_n 2, 1) := by decide +kernel
theorem dX1_heatHour_66 : decode cX1_heatHour 66 = .ok (.aload_n 0, 1) := by decide +kernel
theorem dX1_heatHour_67 : decode cX1_heatHour 67 = .ok (.getfield 21, 3) := by decide +kernel
theorem dX1_heatHour_70 : decode cX1_heatHour 70 = .ok (.iload_n 2, 1) := by decide +kernel
theorem dX1_heatHour_71 : decode cX1_heatHour 71 = .ok (.iaload, 1) := by decide +kernel
theorem dX1_heatHour_72 : decode cX1_heatHour 72 = .ok (.aload_n 0, 1) := by decide +kernel
theorem dX1_heatHour_73 : decode cX1_heatHour 73 = .ok (.iload_n 2, 1) := by decide +kernel
theorem dX1_heatHour_74 : decode cX1_heatHour 74 = .ok (.invokevirtual 48, 3) := by decide +kernel
theorem dX1_heatHour_77 : decode cX1_heatHour 77 = .ok (.bipush 10, 2) := by decide +kernel
theorem dX1_heatHour_79 : decode cX1_heatHour 79 = .ok (.idiv, 1) := by decide +kernel
theorem dX1_heatHour_80 : decode cX1_heatHour 80 = .ok (.iadd, 1) := by decide +kernel
theorem dX1_heatHour_81 : decode cX1_heatHour 81 = .ok (.iastore, 1) := by decide +kernel
theorem dX1_heatHour_82 : decode cX1_heatHour 82 = .ok (.aload_n 0, 1) := by decide +kernel
theorem dX1_heatHour_83 : decode cX1_heatHour 83 = .ok (.getfield 24, 3) := by decide +kernel
theorem dX1_heatHour_86 : decode cX1_heatHour 86 = .ok (.iload_n 2, 1) := by decide +kernel
theorem dX1_heatHour_87 : decode cX1_heatHour 87 = .ok (.aload_n 0, 1) := by decide +kernel
theorem dX1_heatHour_88 : decode cX1_heatHour 88 = .ok (.getfield 24, 3) := by decide +kernel
theorem dX1_heatHour_91 : decode cX1_heatHour 91 = .ok (.iload_n 2, 1) := by decide +kernel
theorem dX1_heatHour_92 : decode cX1_heatHour 92 = .ok (.iaload, 1) := by decide +kernel
theorem dX1_heatHour_93 : decode cX1_heatHour 93 = .ok (.aload_n 0, 1) := by decide +kernel
theorem dX1_heatHour_94 : decode cX1_heatHour 94 = .ok (.getfield 18, 3) := by decide +kernel
theorem dX1_heatHour_97 : decode cX1_heatHour 97 = .ok (.iload_n 2, 1) := by decide +kernel
theorem dX1_heatHour_98 : decode cX1_heatHour 98 = .ok (.iaload, 1) := by decide +kernel
theorem dX1_heatHour_99 : decode cX1_heatHour 99 = .ok (.invokestatic 52, 3) := by decide +kernel
theorem dX1_heatHour_102 : decode cX1_heatHour 102 = .ok (.iastore, 1) := by decide +kernel
theorem dX1_heatHour_103 : decode cX1_heatHour 103 = .ok (.iinc 2 1, 3) := by decide +kernel
theorem dX1_heatHour_106 : decode cX1_heatHour 106 = .ok (.goto (-51), 3) := by decide +kernel
theorem dX1_heatHour_109 : decode cX1_heatHour 109 = .ok (.return_, 1) := by decide +kernel
theorem dX1_besideAbove_0 : decode cX1_besideAbove 0 = .ok (.iconst 0, 1) := by decide +kernel
theorem dX1_besideAbove_1 : decode cX1_besideAbove 1 = .ok (.istore_n 2, 1) := by decide +kernel
theorem dX1_besideAbove_2 : decode cX1_besideAbove 2 = .ok (.iload_n 1, 1) := by decide +kernel
theorem dX1_besideAbove_3 : decode cX1_besideAbove 3 = .ok (.ifCond .le 21, 3) := by decide +kernel
theorem dX1_besideAbove_6 : decode cX1_besideAbove 6 = .ok (.iload_n 2, 1) := by decide +kernel
theorem dX1_besideAbove_7 : decode cX1_besideAbove 7 = .ok (.aload_n 0, 1) := by decide +kernel
theorem dX1_besideAbove_8 : decode cX1_besideAbove 8 = .ok (.getfield 21, 3) := by decide +kernel
theorem dX1_besideAbove_11 : decode cX1_besideAbove 11 = .ok (.iload_n 1, 1) := by decide +kernel
theorem dX1_besideAbove_12 : decode cX1_besideAbove 12 = .ok (.iconst 1, 1) := by decide +kernel
theorem dX1_besideAbove_13 : decode cX1_besideAbove 13 = .ok (.isub, 1) := by decide +kernel
theorem dX1_besideAbove_14 : decode cX1_besideAbove 14 = .ok (.iaload, 1) := by decide +kernel
theorem dX1_besideAbove_15 : decode cX1_besideAbove 15 = .ok (.aload_n 0, 1) := by decide +kernel
theorem dX1_besideAbove_16 : decode cX1_besideAbove 16 = .ok (.getfield 21, 3) := by decide +kernel
theorem dX1_besideAbove_19 : decode cX1_besideAbove 19 = .ok (.iload_n 1, 1) := by decide +kernel
theorem dX1_besideAbove_20 : decode cX1_besideAbove 20 = .ok (.iaload, 1) := by decide +kernel
theorem dX1_besideAbove_21 : decode cX1_besideAbove 21 = .ok (.isub, 1) := by decide +kernel
theorem dX1_besideAbove_22 : decode cX1_besideAbove 22 = .ok (.iadd, 1) := by decide +kernel
theorem dX1_besideAbove_23 : decode cX1_besideAbove 23 = .ok (.istore_n 2, 1) := by decide +kernel
theorem dX1_besideAbove_24 : decode cX1_besideAbove 24 = .ok (.iload_n 1, 1) := by decide +kernel
theorem dX1_besideAbove_25 : decode cX1_besideAbove 25 = .ok (.bipush 11, 2) := by decide +kernel
theorem dX1_besideAbove_27 : decode cX1_besideAbove 27 = .ok (.if_icmp .ge 21, 3) := by decide +kernel
theorem dX1_besideAbove_30 : decode cX1_besideAbove 30 = .ok (.iload_n 2, 1) := by decide +kernel
theorem dX1_besideAbove_31 : decode cX1_besideAbove 31 = .ok (.aload_n 0, 1) := by decide +kernel
theorem dX1_besideAbove_32 : decode cX1_besideAbove 32 = .ok (.getfield 21, 3) := by decide +kernel
theorem dX1_besideAbove_35 : decode cX1_besideAbove 35 = .ok (.iload_n 1, 1) := by decide +kernel
theorem dX1_besideAbove_36 : decode cX1_besideAbove 36 = .ok (.iconst 1, 1) := by decide +kernel
theorem dX1_besideAbove_37 : decode cX1_besideAbove 37 = .ok (.iadd, 1) := by decide +kernel
theorem dX1_besideAbove_38 : decode cX1_besideAbove 38 = .ok (.iaload, 1) := by decide +kernel
theorem dX1_besideAbove_39 : decode cX1_besideAbove 39 = .ok (.aload_n 0, 1) := by decide +kernel
theorem dX1_besideAbove_40 : decode cX1_besideAbove 40 = .ok (.getfield 21, 3) := by decide +kernel
theorem dX1_besideAbove_43 : decode cX1_besideAbove 43 = .ok (.iload_n 1, 1) := by decide +kernel
theorem dX1_besideAbove_44 : decode cX1_besideAbove 44 = .ok (.iaload, 1) := by decide +kernel
theorem dX1_besideAbove_45 : decode cX1_besideAbove 45 = .ok (.isub, 1) := by decide +kernel
theorem dX1_besideAbove_46 : decode cX1_besideAbove 46 = .ok (.iadd, 1) := by decide +kernel
theorem dX1_besideAbove_47 : decode cX1_besideAbove 47 = .ok (.istore_n 2, 1) := by decide +kernel
theorem dX1_besideAbove_48 : decode cX1_besideAbove 48 = .ok (.iload_n 2, 1) := by decide +kernel
theorem dX1_besideAbove_49 : decode cX1_besideAbove 49 = .ok (.ireturn, 1) := by decide +kernel
theorem dX2_init_0 : decode cX2_init 0 = .ok (.aload_n 0, 1) := by decide +kernel
theorem dX2_init_1 : decode cX2_init 1 = .ok (.invokespecial 3, 3) := by decide +kernel
theorem dX2_init_4 : decode cX2_init 4 = .ok (.aload_n 0, 1) := by decide +kernel
theorem dX2_init_5 : decode cX2_init 5 = .ok (.bipush 6, 2) := by decide +kernel
theorem dX2_init_7 : decode cX2_init 7 = .ok (.newarray .int, 2) := by decide +kernel
theorem dX2_init_9 : decode cX2_init 9 = .ok (.putfield 9, 3) := by decide +kernel
theorem dX2_init_12 : decode cX2_init 12 = .ok (.aload_n 0, 1) := by decide +kernel
theorem dX2_init_13 : decode cX2_init 13 = .ok (.bipush 6, 2) := by decide +kernel
theorem dX2_init_15 : decode cX2_init 15 = .ok (.newarray .int, 2) := by decide +kernel
theorem dX2_init_17 : decode cX2_init 17 = .ok (.putfield 15, 3) := by decide +kernel
theorem dX2_init_20 : decode cX2_init 20 = .ok (.aload_n 0, 1) := by decide +kernel
theorem dX2_init_21 : decode cX2_init 21 = .ok (.bipush 6, 2) := by decide +kernel
theorem dX2_init_23 : decode cX2_init 23 = .ok (.newarray .int, 2) := by decide +kernel
theorem dX2_init_25 : decode cX2_init 25 = .ok (.putfield 18, 3) := by decide +kernel
theorem dX2_init_28 : decode cX2_init 28 = .ok (.aload_n 0, 1) := by decide +kernel
theorem dX2_init_29 : decode cX2_init 29 = .ok (.iconst 0, 1) := by decide +kernel
theorem dX2_init_30 : decode cX2_init 30 = .ok (.putfield 21, 3) := by decide +kernel
theorem dX2_init_33 : decode cX2_init 33 = .ok (.return_, 1) := by decide +kernel
theorem dX2_lend_0 : decode cX2_lend 0 = .ok (.aload_n 0, 1) := by decide +kernel
theorem dX2_lend_1 : decode cX2_lend 1 = .ok (.getfield 9, 3) := by decide +kernel
theorem dX2_lend_4 : decode cX2_lend 4 = .ok (.aload_n 0, 1) := by decide +kernel
theorem dX2_lend_5 : decode cX2_lend 5 = .ok (.getfield 21, 3) := by decide +kernel
theorem dX2_lend_8 : decode cX2_lend 8 = .ok (.iload_n 1, 1) := by decide +kernel
theorem dX2_lend_9 : decode cX2_lend 9 = .ok (.iastore, 1) := by decide +kernel
theorem dX2_lend_10 : decode cX2_lend 10 = .ok (.aload_n 0, 1) := by decide +kernel
theorem dX2_lend_11 : decode cX2_lend 11 = .ok (.getfield 15, 3) := by decide +kernel
theorem dX2_lend_14 : decode cX2_lend 14 = .ok (.aload_n 0, 1) := by decide +kernel
theorem dX2_lend_15 : decode cX2_lend 15 = .ok (.getfield 21, 3) := by decide +kernel
theorem dX2_lend_18 : decode cX2_lend 18 = .ok (.iload_n 2, 1) := by decide +kernel
theorem dX2_lend_19 : decode cX2_lend 19 = .ok (.iastore, 1) := by decide +kernel
theorem dX2_lend_20 : decode cX2_lend 20 = .ok (.aload_n 0, 1) := by decide +kernel
theorem dX2_lend_21 : decode cX2_lend 21 = .ok (.getfield 18, 3) := by decide +kernel
theorem dX2_lend_24 : decode cX2_lend 24 = .ok (.aload_n 0, 1) := by decide +kernel
theorem dX2_lend_25 : decode cX2_lend 25 = .ok (.getfield 21, 3) := by decide +kernel
theorem dX2_lend_28 : decode cX2_lend 28 = .ok (.iload_n 3, 1) := by decide +kernel
theorem dX2_lend_29 : decode cX2_lend 29 = .ok (.iastore, 1) := by decide +kernel
theorem dX2_lend_30 : decode cX2_lend 30 = .ok (.aload_n 0, 1) := by decide +kernel
theorem dX2_lend_31 : decode cX2_lend 31 = .ok (.dup, 1) := by decide +kernel
theorem dX2_lend_32 : decode cX2_lend 32 = .ok (.getfield 21, 3) := by decide +kernel
theorem dX2_lend_35 : decode cX2_lend 35 = .ok (.iconst 1, 1) := by decide +kernel
theorem dX2_lend_36 : decode cX2_lend 36 = .ok (.iadd, 1) := by decide +kernel
theorem dX2_lend_37 : decode cX2_lend 37 = .ok (.putfield 21, 3) := by decide +kernel
theorem dX2_lend_40 : decode cX2_lend 40 = .ok (.aload_n 0, 1) := by decide +kernel
theorem dX2_lend_41 : decode cX2_lend 41 = .ok (.getfield 21, 3) := by decide +kernel
theorem dX2_lend_44 : decode cX2_lend 44 = .ok (.iconst 1, 1) := by decide +kernel
theorem dX2_lend_45 : decode cX2_lend 45 = .ok (.isub, 1) := by decide +kernel
theorem dX2_lend_46 : decode cX2_lend 46 = .ok (.ireturn, 1) := by decide +kernel
theorem dX2_pass_0 : decode cX2_pass 0 = .ok (.iconst 0, 1) := by decide +kernel
theorem dX2_pass_1 : decode cX2_pass 1 = .ok (.istore_n 3, 1) := by decide +kernel
theorem dX2_pass_2 : decode cX2_pass 2 = .ok (.iload_n 3, 1) := by decide +kernel
theorem dX2_pass_3 : decode cX2_pass 3 = .ok (.aload_n 0, 1) := by decide +kernel
theorem dX2_pass_4 : decode cX2_pass 4 = .ok (.getfield 21, 3) := by decide +kernel
theorem dX2_pass_7 : decode cX2_pass 7 = .ok (.if_icmp .ge 22, 3) := by decide +kernel
theorem dX2_pass_10 : decode cX2_pass 10 = .ok (.aload_n 0, 1) := by decide +kernel
theorem dX2_pass_11 : decode cX2_pass 11 = .ok (.getfield 9, 3) := by decide +kernel
theorem dX2_pass_14 : decode cX2_pass 14 = .ok (.iload_n 3, 1) := by decide +kernel
theorem dX2_pass_15 : decode cX2_pass 15 = .ok (.aload_n 0, 1) := by decide +kernel
theorem dX2_pass_16 : decode cX2_pass 16 = .ok (.iload_n 3, 1) := by decide +kernel
theorem dX2_pass_17 : decode cX2_pass 17 = .ok (.iload_n 1, 1) := by decide +kernel
theorem dX2_pass_18 : decode cX2_pass 18 = .ok (.iload_n 2, 1) := by decide +kernel
theorem dX2_pass_19 : decode cX2_pass 19 = .ok (.invokevirtual 25, 3) := by decide +kernel
theorem dX2_pass_22 : decode cX2_pass 22 = .ok (.iastore, 1) := by decide +kernel
theorem dX2_pass_23 : decode cX2_pass 23 = .ok (.iinc 3 1, 3) := by decide +kernel
theorem dX2_pass_26 : decode cX2_pass 26 = .ok (.goto (-24), 3) := by decide +kernel
theorem dX2_pass_29 : decode cX2_pass 29 = .ok (.return_, 1) := by decide +kernel
theorem dX2_sumAfter_0 : decode cX2_sumAfter 0 = .ok (.iload_n 2, 1) := by decide +kernel
theorem dX2_sumAfter_1 : decode cX2_sumAfter 1 = .ok (.aload_n 0, 1) := by decide +kernel
theorem dX2_sumAfter_2 : decode cX2_sumAfter 2 = .ok (.getfield 18, 3) := by decide +kernel
theorem dX2_sumAfter_5 : decode cX2_sumAfter 5 = .ok (.iload_n 1, 1) := by decide +kernel
theorem dX2_sumAfter_6 : decode cX2_sumAfter 6 = .ok (.iaload, 1) := by decide +kernel
theorem dX2_sumAfter_7 : decode cX2_sumAfter 7 = .ok (.isub, 1) := by decide +kernel
theorem dX2_sumAfter_8 : decode cX2_sumAfter 8 = .ok (.istore 4, 2) := by decide +kernel
theorem dX2_sumAfter_10 : decode cX2_sumAfter 10 = .ok (.iload 4, 2) := by decide +kernel
theorem dX2_sumAfter_12 : decode cX2_sumAfter 12 = .ok (.iload_n 3, 1) := by decide +kernel
theorem dX2_sumAfter_13 : decode cX2_sumAfter 13 = .ok (.iadd, 1) := by decide +kernel
theorem dX2_sumAfter_14 : decode cX2_sumAfter 14 = .ok (.bipush 30, 2) := by decide +kernel
theorem dX2_sumAfter_16 : decode cX2_sumAfter 16 = .ok (.idiv, 1) := by decide +kernel
theorem dX2_sumAfter_17 : decode cX2_sumAfter 17 = .ok (.iload 4, 2) := by decide +kernel
theorem dX2_sumAfter_19 : decode cX2_sumAfter 19 = .ok (.bipush 30, 2) := by decide +kernel
theorem dX2_sumAfter_21 : decode cX2_sumAfter 21 = .ok (.idiv, 1) := by decide +kernel
theorem dX2_sumAfter_22 : decode cX2_sumAfter 22 = .ok (.isub, 1) := by decide +kernel
theorem dX2_sumAfter_23 : decode cX2_sumAfter 23 = .ok (.istore 5, 2) := by decide +kernel
theorem dX2_sumAfter_25 : decode cX2_sumAfter 25 = .ok (.aload_n 0, 1) := by decide +kernel
theorem dX2_sumAfter_26 : decode cX2_sumAfter 26 = .ok (.getfield 9, 3) := by decide +kernel
theorem dX2_sumAfter_29 : decode cX2_sumAfter 29 = .ok (.iload_n 1, 1) := by decide +kernel
theorem dX2_sumAfter_30 : decode cX2_sumAfter 30 = .ok (.iaload, 1) := by decide +kernel
theorem dX2_sumAfter_31 : decode cX2_sumAfter 31 = .ok (.i2l, 1) := by decide +kernel
theorem dX2_sumAfter_32 : decode cX2_sumAfter 32 = .ok (.lstore 6, 2) := by decide +kernel
theorem dX2_sumAfter_34 : decode cX2_sumAfter 34 = .ok (.iconst 0, 1) := by decide +kernel
theorem dX2_sumAfter_35 : decode cX2_sumAfter 35 = .ok (.istore 8, 2) := by decide +kernel
theorem dX2_sumAfter_37 : decode cX2_sumAfter 37 = .ok (.iload 8, 2) := by decide +kernel
theorem dX2_sumAfter_39 : decode cX2_sumAfter 39 = .ok (.iload 5, 2) := by decide +kernel
theorem dX2_sumAfter_41 : decode cX2_sumAfter 41 = .ok (.if_icmp .ge 34, 3) := by decide +kernel
theorem dX2_sumAfter_44 : decode cX2_sumAfter 44 = .ok (.ldc2_w 29, 3) := by decide +kernel
theorem dX2_sumAfter_47 : decode cX2_sumAfter 47 = .ok (.lload 6, 2) := by decide +kernel
theorem dX2_sumAfter_49 : decode cX2_sumAfter 49 = .ok (.lload 6, 2) := by decide +kernel
theorem dX2_sumAfter_51 : decode cX2_sumAfter 51 = .ok (.aload_n 0, 1) := by decide +kernel
theorem dX2_sumAfter_52 : decode cX2_sumAfter 52 = .ok (.getfield 15, 3) := by decide +kernel
theorem dX2_sumAfter_55 : decode cX2_sumAfter 55 = .ok (.iload_n 1, 1) := by decide +kernel
theorem dX2_sumAfter_56 : decode cX2_sumAfter 56 = .ok (.iaload, 1) := by decide +kernel
theorem dX2_sumAfter_57 : decode cX2_sumAfter 57 = .ok (.i2l, 1) := by decide +kernel
theorem dX2_sumAfter_58 : decode cX2_sumAfter 58 = .ok (.lmul, 1) := by decide +kernel
theorem dX2_sumAfter_59 : decode cX2_sumAfter 59 = .ok (.ldc2_w 31, 3) := by decide +kernel
theorem dX2_sumAfter_62 : decode cX2_sumAfter 62 = .ok (.ldiv, 1) := by decide +kernel
theorem dX2_sumAfter_63 : decode cX2_sumAfter 63 = .ok (.ladd, 1) := by decide +kernel
theorem dX2_sumAfter_64 : decode cX2_sumAfter 64 = .ok (.invokestatic 33, 3) := by decide +kernel
theorem dX2_sumAfter_67 : decode cX2_sumAfter 67 = .ok (.lstore 6, 2) := by decide +kernel
theorem dX2_sumAfter_69 : decode cX2_sumAfter 69 = .ok (.iinc 8 1, 3) := by decide +kernel
theorem dX2_sumAfter_72 : decode cX2_sumAfter 72 = .ok (.goto (-35), 3) := by decide +kernel
theorem dX2_sumAfter_75 : decode cX2_sumAfter 75 = .ok (.lload 6, 2) := by decide +kernel
theorem dX2_sumAfter_77 : decode cX2_sumAfter 77 = .ok (.l2i, 1) := by decide +kernel
theorem dX2_sumAfter_78 : decode cX2_sumAfter 78 = .ok (.ireturn, 1) := by decide +kernel
theorem dX3_init_0 : decode cX3_init 0 = .ok (.aload_n 0, 1) := by decide +kernel
theorem dX3_init_1 : decode cX3_init 1 = .ok (.invokespecial 3, 3) := by decide +kernel
theorem dX3_init_4 : decode cX3_init 4 = .ok (.aload_n 0, 1) := by decide +kernel
theorem dX3_init_5 : decode cX3_init 5 = .ok (.bipush 80, 2) := by decide +kernel
theorem dX3_init_7 : decode cX3_init 7 = .ok (.newarray .int, 2) := by decide +kernel
theorem dX3_init_9 : decode cX3_init 9 = .ok (.putfield 9, 3) := by decide +kernel
theorem dX3_init_12 : decode cX3_init 12 = .ok (.aload_n 0, 1) := by decide +kernel
theorem dX3_init_13 : decode cX3_init 13 = .ok (.bipush 80, 2) := by decide +kernel
theorem dX3_init_15 : decode cX3_init 15 = .ok (.newarray .int, 2) := by decide +kernel
theorem dX3_init_17 : decode cX3_init 17 = .ok (.putfield 15, 3) := by decide +kernel
theorem dX3_init_20 : decode cX3_init 20 = .ok (.aload_n 0, 1) := by decide +kernel
theorem dX3_init_21 : decode cX3_init 21 = .ok (.bipush 12, 2) := by decide +kernel
theorem dX3_init_23 : decode cX3_init 23 = .ok (.newarray .int, 2) := by decide +kernel
theorem dX3_init_25 : decode cX3_init 25 = .ok (.putfield 18, 3) := by decide +kernel
theorem dX3_init_28 : decode cX3_init 28 = .ok (.aload_n 0, 1) := by decide +kernel
theorem dX3_init_29 : decode cX3_init 29 = .ok (.iconst 0, 1) := by decide +kernel
theorem dX3_init_30 : decode cX3_init 30 = .ok (.putfield 21, 3) := by decide +kernel
theorem dX3_init_33 : decode cX3_init 33 = .ok (.aload_n 0, 1) := by decide +kernel
theorem dX3_init_34 : decode cX3_init 34 = .ok (.iconst 0, 1) := by decide +kernel
theorem dX3_init_35 : decode cX3_init 35 = .ok (.putfield 25, 3) := by decide +kernel
theorem dX3_init_38 : decode cX3_init 38 = .ok (.aload_n 0, 1) := by decide +kernel
theorem dX3_init_39 : decode cX3_init 39 = .ok (.iconst 0, 1) := by decide +kernel
theorem dX3_init_40 : decode cX3_init 40 = .ok (.putfield 28, 3) := by decide +kernel
theorem dX3_init_43 : decode cX3_init 43 = .ok (.return_, 1) := by decide +kernel
theorem dX3_find_0 : decode cX3_find 0 = .ok (.aload_n 0, 1) := by decide +kernel
theorem dX3_find_1 : decode cX3_find 1 = .ok (.iload_n 1, 1) := by decide +kernel
theorem dX3_find_2 : decode cX3_find 2 = .ok (.aload 4, 2) := by decide +kernel
theorem dX3_find_4 : decode cX3_find 4 = .ok (.invokevirtual 31, 3) := by decide +kernel
theorem dX3_find_7 : decode cX3_find 7 = .ok (.aload_n 0, 1) := by decide +kernel
theorem dX3_find_8 : decode cX3_find 8 = .ok (.iconst 0, 1) := by decide +kernel
theorem dX3_find_9 : decode cX3_find 9 = .ok (.putfield 28, 3) := by decide +kernel
theorem dX3_find_12 : decode cX3_find 12 = .ok (.iconst 0, 1) := by decide +kernel
theorem dX3_find_13 : decode cX3_find 13 = .ok (.istore 5, 2) := by decide +kernel
theorem dX3_find_15 : decode cX3_find 15 = .ok (.iload 5, 2) := by decide +kernel
theorem dX3_find_17 : decode cX3_find 17 = .ok (.iload_n 2, 1) := by decide +kernel
theorem dX3_find_18 : decode cX3_find 18 = .ok (.iadd, 1) := by decide +kernel
theorem dX3_find_19 : decode cX3_find 19 = .ok (.aload_n 0, 1) := by decide +kernel
theorem dX3_find_20 : decode cX3_find 20 = .ok (.getfield 21, 3) := by decide +kernel
theorem dX3_find_23 : decode cX3_find 23 = .ok (.if_icmp .gt 45, 3) := by decide +kernel
theorem dX3_find_26 : decode cX3_find 26 = .ok (.aload_n 0, 1) := by decide +kernel
theorem dX3_find_27 : decode cX3_find 27 = .ok (.getfield 15, 3) := by decide +kernel
theorem dX3_find_30 : decode cX3_find 30 = .ok (.iload 5, 2) := by decide +kernel
theorem dX3_find_32 : decode cX3_find 32 = .ok (.iaload, 1) := by decide +kernel
theorem dX3_find_33 : decode cX3_find 33 = .ok (.aload_n 0, 1) := by decide +kernel
theorem dX3_find_34 : decode cX3_find 34 = .ok (.getfield 15, 3) := by decide +kernel
theorem dX3_find_37 : decode cX3_find 37 = .ok (.iload 5, 2) := by decide +kernel
theorem dX3_find_39 : decode cX3_find 39 = .ok (.iload_n 2, 1) := by decide +kernel
theorem dX3_find_40 : decode cX3_find 40 = .ok (.iadd, 1) := by decide +kernel
theorem dX3_find_41 : decode cX3_find 41 = .ok (.iconst 1, 1) := by decide +kernel
theorem dX3_find_42 : decode cX3_find 42 = .ok (.isub, 1) := by decide +kernel
theorem dX3_find_43 : decode cX3_find 43 = .ok (.iaload, 1) := by decide +kernel
theorem dX3_find_44 : decode cX3_find 44 = .ok (.isub, 1) := by decide +kernel
theorem dX3_find_45 : decode cX3_find 45 = .ok (.iload_n 3, 1) := by decide +kernel
theorem dX3_find_46 : decode cX3_find 46 = .ok (.if_icmp .gt 16, 3) := by decide +kernel
theorem dX3_find_49 : decode cX3_find 49 = .ok (.aload_n 0, 1) := by decide +kernel
theorem dX3_find_50 : decode cX3_find 50 = .ok (.iload 5, 2) := by decide +kernel
theorem dX3_find_52 : decode cX3_find 52 = .ok (.putfield 25, 3) := by decide +kernel
theorem dX3_find_55 : decode cX3_find 55 = .ok (.aload_n 0, 1) := by decide +kernel
theorem dX3_find_56 : decode cX3_find 56 = .ok (.iload_n 2, 1) := by decide +kernel
theorem dX3_find_57 : decode cX3_find 57 = .ok (.invokevirtual 35, 3) := by decide +kernel
theorem dX3_find_60 : decode cX3_find 60 = .ok (.iconst 1, 1) := by decide +kernel
theorem dX3_find_61 : decode cX3_find 61 = .ok (.ireturn, 1) := by decide +kernel
theorem dX3_find_62 : decode cX3_find 62 = .ok (.iinc 5 1, 3) := by decide +kernel
theorem dX3_find_65 : decode cX3_find 65 = .ok (.goto (-50), 3) := by decide +kernel
theorem dX3_find_68 : decode cX3_find 68 = .ok (.iconst 0, 1) := by decide +kernel
theorem dX3_find_69 : decode cX3_find 69 = .ok (.ireturn, 1) := by decide +kernel
theorem dX3_gather_0 : decode cX3_gather 0 = .ok (.aload_n 0, 1) := by decide +kernel
theorem dX3_gather_1 : decode cX3_gather 1 = .ok (.iconst 0, 1) := by decide +kernel
theorem dX3_gather_2 : decode cX3_gather 2 = .ok (.putfield 21, 3) := by decide +kernel
theorem dX3_gather_5 : decode cX3_gather 5 = .ok (.iconst 0, 1) := by decide +kernel
theorem dX3_gather_6 : decode cX3_gather 6 = .ok (.istore_n 3, 1) := by decide +kernel
theorem dX3_gather_7 : decode cX3_gather 7 = .ok (.iload_n 3, 1) := by decide +kernel
theorem dX3_gather_8 : decode cX3_gather 8 = .ok (.aload_n 2, 1) := by decide +kernel
theorem dX3_gather_9 : decode cX3_gather 9 = .ok (.getfield 39, 3) := by decide +kernel
theorem dX3_gather_12 : decode cX3_gather 12 = .ok (.if_icmp .ge 38, 3) := by decide +kernel
theorem dX3_gather_15 : decode cX3_gather 15 = .ok (.aload_n 2, 1) := by decide +kernel
theorem dX3_gather_16 : decode cX3_gather 16 = .ok (.getfield 44, 3) := by decide +kernel
theorem dX3_gather_19 : decode cX3_gather 19 = .ok (.iload_n 3, 1) := by decide +kernel
theorem dX3_gather_20 : decode cX3_gather 20 = .ok (.iaload, 1) := by decide +kernel
theorem dX3_gather_21 : decode cX3_gather 21 = .ok (.iload_n 1, 1) := by decide +kernel
theorem dX3_gather_22 : decode cX3_gather 22 = .ok (.if_icmp .ne 22, 3) := by decide +kernel
theorem dX3_gather_25 : decode cX3_gather 25 = .ok (.aload_n 2, 1) := by decide +kernel
theorem dX3_gather_26 : decode cX3_gather 26 = .ok (.iload_n 3, 1) := by decide +kernel
theorem dX3_gather_27 : decode cX3_gather 27 = .ok (.invokevirtual 47, 3) := by decide +kernel
theorem dX3_gather_30 : decode cX3_gather 30 = .ok (.ifCond .eq 14, 3) := by decide +kernel
theorem dX3_gather_33 : decode cX3_gather 33 = .ok (.aload_n 0, 1) := by decide +kernel
theorem dX3_gather_34 : decode cX3_gather 34 = .ok (.iload_n 3, 1) := by decide +kernel
theorem dX3_gather_35 : decode cX3_gather 35 = .ok (.aload_n 2, 1) := by decide +kernel
theorem dX3_gather_36 : decode cX3_gather 36 = .ok (.getfield 51, 3) := by decide +kernel
theorem dX3_gather_39 : decode cX3_gather 39 = .ok (.iload_n 3, 1) := by decide +kernel
theorem dX3_gather_40 : decode cX3_gather 40 = .ok (.iaload, 1) := by decide +kernel
theorem dX3_gather_41 : decode cX3_gather 41 = .ok (.invokevirtual 52, 3) := by decide +kernel
theorem dX3_gather_44 : decode cX3_gather 44 = .ok (.iinc 3 1, 3) := by decide +kernel
theorem dX3_gather_47 : decode cX3_gather 47 = .ok (.goto (-40), 3) := by decide +kernel
theorem dX3_gather_50 : decode cX3_gather 50 = .ok (.return_, 1) := by decide +kernel
theorem dX3_insert_0 : decode cX3_insert 0 = .ok (.aload_n 0, 1) := by decide +kernel
theorem dX3_insert_1 : decode cX3_insert 1 = .ok (.getfield 21, 3) := by decide +kernel
theorem dX3_insert_4 : decode cX3_insert 4 = .ok (.istore_n 3, 1) := by decide +kernel
theorem dX3_insert_5 : decode cX3_insert 5 = .ok (.iload_n 3, 1) := by decide +kernel
theorem dX3_insert_6 : decode cX3_insert 6 = .ok (.ifCond .le 49, 3) := by decide +kernel
theorem dX3_insert_9 : decode cX3_insert 9 = .ok (.aload_n 0, 1) := by decide +kernel
theorem dX3_insert_10 : decode cX3_insert 10 = .ok (.getfield 15, 3) := by decide +kernel
theorem dX3_insert_13 : decode cX3_insert 13 = .ok (.iload_n 3, 1) := by decide +kernel
theorem dX3_insert_14 : decode cX3_insert 14 = .ok (.iconst 1, 1) := by decide +kernel
theorem dX3_insert_15 : decode cX3_insert 15 = .ok (.isub, 1) := by decide +kernel
theorem dX3_insert_16 : decode cX3_insert 16 = .ok (.iaload, 1) := by decide +kernel
theorem dX3_insert_17 : decode cX3_insert 17 = .ok (.iload_n 2, 1) := by decide +kernel
theorem dX3_insert_18 : decode cX3_insert 18 = .ok (.if_icmp .ge 37, 3) := by decide +kernel
theorem dX3_insert_21 : decode cX3_insert 21 = .ok (.aload_n 0, 1) := by decide +kernel
theorem dX3_insert_22 : decode cX3_insert 22 = .ok (.getfield 9, 3) := by decide +kernel
theorem dX3_insert_25 : decode cX3_insert 25 = .ok (.iload_n 3, 1) := by decide +kernel
theorem dX3_insert_26 : decode cX3_insert 26 = .ok (.aload_n 0, 1) := by decide +kernel
theorem dX3_insert_27 : decode cX3_insert 27 = .ok (.getfield 9, 3) := by decide +kernel
theorem dX3_insert_30 : decode cX3_insert 30 = .ok (.iload_n 3, 1) := by decide +kernel
theorem dX3_insert_31 : decode cX3_insert 31 = .ok (.iconst 1, 1) := by decide +kernel
theorem dX3_insert_32 : decode cX3_insert 32 = .ok (.isub, 1) := by decide +kernel
theorem dX3_insert_33 : decode cX3_insert 33 = .ok (.iaload, 1) := by decide +kernel
theorem dX3_insert_34 : decode cX3_insert 34 = .ok (.iastore, 1) := by decide +kernel
theorem dX3_insert_35 : decode cX3_insert 35 = .ok (.aload_n 0, 1) := by decide +kernel
theorem dX3_insert_36 : decode cX3_insert 36 = .ok (.getfield 15, 3) := by decide +kernel
theorem dX3_insert_39 : decode cX3_insert 39 = .ok (.iload_n 3, 1) := by decide +kernel
theorem dX3_insert_40 : decode cX3_insert 40 = .ok (.aload_n 0, 1) := by decide +kernel
theorem dX3_insert_41 : decode cX3_insert 41 = .ok (.getfield 15, 3) := by decide +kernel
theorem dX3_insert_44 : decode cX3_insert 44 = .ok (.iload_n 3, 1) := by decide +kernel
theorem dX3_insert_45 : decode cX3_insert 45 = .ok (.iconst 1, 1) := by decide +kernel
theorem dX3_insert_46 : decode cX3_insert 46 = .ok (.isub, 1) := by decide +kernel
theorem dX3_insert_47 : decode cX3_insert 47 = .ok (.iaload, 1) := by decide +kernel
theorem dX3_insert_48 : decode cX3_insert 48 = .ok (.iastore, 1) := by decide +kernel
theorem dX3_insert_49 : decode cX3_insert 49 = .ok (.iinc 3 (-1), 3) := by decide +kernel
theorem dX3_insert_52 : decode cX3_insert 52 = .ok (.goto (-47), 3) := by decide +kernel
theorem dX3_insert_55 : decode cX3_insert 55 = .ok (.aload_n 0, 1) := by decide +kernel
theorem dX3_insert_56 : decode cX3_insert 56 = .ok (.getfield 9, 3) := by decide +kernel
theorem dX3_insert_59 : decode cX3_insert 59 = .ok (.iload_n 3, 1) := by decide +kernel
theorem dX3_insert_60 : decode cX3_insert 60 = .ok (.iload_n 1, 1) := by decide +kernel
theorem dX3_insert_61 : decode cX3_insert 61 = .ok (.iastore, 1) := by decide +kernel
theorem dX3_insert_62 : decode cX3_insert 62 = .ok (.aload_n 0, 1) := by decide +kernel
theorem dX3_insert_63 : decode cX3_insert 63 = .ok (.getfield 15, 3) := by decide +kernel
theorem dX3_insert_66 : decode cX3_insert 66 = .ok (.iload_n 3, 1) := by decide +kernel
theorem dX3_insert_67 : decode cX3_insert 67 = .ok (.iload_n 2, 1) := by decide +kernel
theorem dX3_insert_68 : decode cX3_insert 68 = .ok (.iastore, 1) := by decide +kernel
theorem dX3_insert_69 : decode cX3_insert 69 = .ok (.aload_n 0, 1) := by decide +kernel
theorem dX3_insert_70 : decode cX3_insert 70 = .ok (.dup, 1) := by decide +kernel
theorem dX3_insert_71 : decode cX3_insert 71 = .ok (.getfield 21, 3) := by decide +kernel
theorem dX3_insert_74 : decode cX3_insert 74 = .ok (.iconst 1, 1) := by decide +kernel
theorem dX3_insert_75 : decode cX3_insert 75 = .ok (.iadd, 1) := by decide +kernel
theorem dX3_insert_76 : decode cX3_insert 76 = .ok (.putfield 21, 3) := by decide +kernel
theorem dX3_insert_79 : decode cX3_insert 79 = .ok (.return_, 1) := by decide +kernel
theorem dX3_take_0 : decode cX3_take 0 = .ok (.iconst 0, 1) := by decide +kernel
theorem dX3_take_1 : decode cX3_take 1 = .ok (.istore_n 2, 1) := by decide +kernel
theorem dX3_take_2 : decode cX3_take 2 = .ok (.iload_n 2, 1) := by decide +kernel
theorem dX3_take_3 : decode cX3_take 3 = .ok (.iload_n 1, 1) := by decide +kernel
theorem dX3_take_4 : decode cX3_take 4 = .ok (.if_icmp .ge 26, 3) := by decide +kernel
theorem dX3_take_7 : decode cX3_take 7 = .ok (.aload_n 0, 1) := by decide +kernel
theorem dX3_take_8 : decode cX3_take 8 = .ok (.getfield 18, 3) := by decide +kernel
theorem dX3_take_11 : decode cX3_take 11 = .ok (.iload_n 2, 1) := by decide +kernel
theorem dX3_take_12 : decode cX3_take 12 = .ok (.aload_n 0, 1) := by decide +kernel
theorem dX3_take_13 : decode cX3_take 13 = .ok (.getfield 9, 3) := by decide +kernel
theorem dX3_take_16 : decode cX3_take 16 = .ok (.aload_n 0, 1) := by decide +kernel
theorem dX3_take_17 : decode cX3_take 17 = .ok (.getfield 25, 3) := by decide +kernel
theorem dX3_take_20 : decode cX3_take 20 = .ok (.iload_n 2, 1) := by decide +kernel
theorem dX3_take_21 : decode cX3_take 21 = .ok (.iadd, 1) := by decide +kernel
theorem dX3_take_22 : decode cX3_take 22 = .ok (.iaload, 1) := by decide +kernel
theorem dX3_take_23 : decode cX3_take 23 = .ok (.iastore, 1) := by decide +kernel
theorem dX3_take_24 : decode cX3_take 24 = .ok (.iinc 2 1, 3) := by decide +kernel
theorem dX3_take_27 : decode cX3_take 27 = .ok (.goto (-25), 3) := by decide +kernel
theorem dX3_take_30 : decode cX3_take 30 = .ok (.aload_n 0, 1) := by decide +kernel
theorem dX3_take_31 : decode cX3_take 31 = .ok (.iload_n 1, 1) := by decide +kernel
theorem dX3_take_32 : decode cX3_take 32 = .ok (.putfield 28, 3) := by decide +kernel
theorem dX3_take_35 : decode cX3_take 35 = .ok (.return_, 1) := by decide +kernel
theorem dX3_lacking_0 : decode cX3_lacking 0 = .ok (.iconst 0, 1) := by decide +kernel
theorem dX3_lacking_1 : decode cX3_lacking 1 = .ok (.istore_n 1, 1) := by decide +kernel
theorem dX3_lacking_2 : decode cX3_lacking 2 = .ok (.iconst 0, 1) := by decide +kernel
theorem dX3_lacking_3 : decode cX3_lacking 3 = .ok (.istore_n 2, 1) := by decide +kernel
theorem dX3_lacking_4 : decode cX3_lacking 4 = .ok (.iload_n 2, 1) := by decide +kernel
theorem dX3_lacking_5 : decode cX3_lacking 5 = .ok (.aload_n 0, 1) := by decide +kernel
theorem dX3_lacking_6 : decode cX3_lacking 6 = .ok (.getfield 28, 3) := by decide +kernel
theorem dX3_lacking_9 : decode cX3_lacking 9 = .ok (.if_icmp .ge 26, 3) := by decide +kernel
theorem dX3_lacking_12 : decode cX3_lacking 12 = .ok (.iload_n 1, 1) := by decide +kernel
theorem dX3_lacking_13 : decode cX3_lacking 13 = .ok (.bipush 100, 2) := by decide +kernel
theorem dX3_lacking_15 : decode cX3_lacking 15 = .ok (.aload_n 0, 1) := by decide +kernel
theorem dX3_lacking_16 : decode cX3_lacking 16 = .ok (.getfield 15, 3) := by decide +kernel
theorem dX3_lacking_19 : decode cX3_lacking 19 = .ok (.aload_n 0, 1) := by decide +kernel
theorem dX3_lacking_20 : decode cX3_lacking 20 = .ok (.getfield 25, 3) := by decide +kernel
theorem dX3_lacking_23 : decode cX3_lacking 23 = .ok (.iload_n 2, 1) := by decide +kernel
theorem dX3_lacking_24 : decode cX3_lacking 24 = .ok (.iadd, 1) := by decide +kernel
theorem dX3_lacking_25 : decode cX3_lacking 25 = .ok (.iaload, 1) := by decide +kernel
theorem dX3_lacking_26 : decode cX3_lacking 26 = .ok (.isub, 1) := by decide +kernel
theorem dX3_lacking_27 : decode cX3_lacking 27 = .ok (.iadd, 1) := by decide +kernel
theorem dX3_lacking_28 : decode cX3_lacking 28 = .ok (.istore_n 1, 1) := by decide +kernel
theorem dX3_lacking_29 : decode cX3_lacking 29 = .ok (.iinc 2 1, 3) := by decide +kernel
theorem dX3_lacking_32 : decode cX3_lacking 32 = .ok (.goto (-28), 3) := by decide +kernel
theorem dX3_lacking_35 : decode cX3_lacking 35 = .ok (.iload_n 1, 1) := by decide +kernel
theorem dX3_lacking_36 : decode cX3_lacking 36 = .ok (.ireturn, 1) := by decide +kernel
theorem dX3_sortByNumber_0 : decode cX3_sortByNumber 0 = .ok (.iconst 1, 1) := by decide +kernel
theorem dX3_sortByNumber_1 : decode cX3_sortByNumber 1 = .ok (.istore_n 1, 1) := by decide +kernel
theorem dX3_sortByNumber_2 : decode cX3_sortByNumber 2 = .ok (.iload_n 1, 1) := by decide +kernel
theorem dX3_sortByNumber_3 : decode cX3_sortByNumber 3 = .ok (.aload_n 0, 1) := by decide +kernel
theorem dX3_sortByNumber_4 : decode cX3_sortByNumber 4 = .ok (.getfield 28, 3) := by decide +kernel
theorem dX3_sortByNumber_7 : decode cX3_sortByNumber 7 = .ok (.if_icmp .ge 61, 3) := by decide +kernel
theorem dX3_sortByNumber_10 : decode cX3_sortByNumber 10 = .ok (.aload_n 0, 1) := by decide +kernel
theorem dX3_sortByNumber_11 : decode cX3_sortByNumber 11 = .ok (.getfield 18, 3) := by decide +kernel
theorem dX3_sortByNumber_14 : decode cX3_sortByNumber 14 = .ok (.iload_n 1, 1) := by decide +kernel
theorem dX3_sortByNumber_15 : decode cX3_sortByNumber 15 = .ok (.iaload, 1) := by decide +kernel
theorem dX3_sortByNumber_16 : decode cX3_sortByNumber 16 = .ok (.istore_n 2, 1) := by decide +kernel
theorem dX3_sortByNumber_17 : decode cX3_sortByNumber 17 = .ok (.iload_n 1, 1) := by decide +kernel
theorem dX3_sortByNumber_18 : decode cX3_sortByNumber 18 = .ok (.istore_n 3, 1) := by decide +kernel
theorem dX3_sortByNumber_19 : decode cX3_sortByNumber 19 = .ok (.iload_n 3, 1) := by decide +kernel
theorem dX3_sortByNumber_20 : decode cX3_sortByNumber 20 = .ok (.ifCond .le 35, 3) := by decide +kernel
theorem dX3_sortByNumber_23 : decode cX3_sortByNumber 23 = .ok (.aload_n 0, 1) := by decide +kernel
theorem dX3_sortByNumber_24 : decode cX3_sortByNumber 24 = .ok (.getfield 18, 3) := by decide +kernel
theorem dX3_sortByNumber_27 : decode cX3_sortByNumber 27 = .ok (.iload_n 3, 1) := by decide +kernel
theorem dX3_sortByNumber_28 : decode cX3_sortByNumber 28 = .ok (.iconst 1, 1) := by decide +kernel
theorem dX3_sortByNumber_29 : decode cX3_sortByNumber 29 = .ok (.isub, 1) := by decide +kernel
theorem dX3_sortByNumber_30 : decode cX3_sortByNumber 30 = .ok (.iaload, 1) := by decide +kernel
theorem dX3_sortByNumber_31 : decode cX3_sortByNumber 31 = .ok (.iload_n 2, 1) := by decide +kernel
theorem dX3_sortByNumber_32 : decode cX3_sortByNumber 32 = .ok (.if_icmp .le 23, 3) := by decide +kernel
theorem dX3_sortByNumber_35 : decode cX3_sortByNumber 35 = .ok (.aload_n 0, 1) := by decide +kernel
theorem dX3_sortByNumber_36 : decode cX3_sortByNumber 36 = .ok (.getfield 18, 3) := by decide +kernel
theorem dX3_sortByNumber_39 : decode cX3_sortByNumber 39 = .ok (.iload_n 3, 1) := by decide +kernel
theorem dX3_sortByNumber_40 : decode cX3_sortByNumber 40 = .ok (.aload_n 0, 1) := by decide +kernel
theorem dX3_sortByNumber_41 : decode cX3_sortByNumber 41 = .ok (.getfield 18, 3) := by decide +kernel
theorem dX3_sortByNumber_44 : decode cX3_sortByNumber 44 = .ok (.iload_n 3, 1) := by decide +kernel
theorem dX3_sortByNumber_45 : decode cX3_sortByNumber 45 = .ok (.iconst 1, 1) := by decide +kernel
theorem dX3_sortByNumber_46 : decode cX3_sortByNumber 46 = .ok (.isub, 1) := by decide +kernel
theorem dX3_sortByNumber_47 : decode cX3_sortByNumber 47 = .ok (.iaload, 1) := by decide +kernel
theorem dX3_sortByNumber_48 : decode cX3_sortByNumber 48 = .ok (.iastore, 1) := by decide +kernel
theorem dX3_sortByNumber_49 : decode cX3_sortByNumber 49 = .ok (.iinc 3 (-1), 3) := by decide +kernel
theorem dX3_sortByNumber_52 : decode cX3_sortByNumber 52 = .ok (.goto (-33), 3) := by decide +kernel
theorem dX3_sortByNumber_55 : decode cX3_sortByNumber 55 = .ok (.aload_n 0, 1) := by decide +kernel
theorem dX3_sortByNumber_56 : decode cX3_sortByNumber 56 = .ok (.getfield 18, 3) := by decide +kernel
theorem dX3_sortByNumber_59 : decode cX3_sortByNumber 59 = .ok (.iload_n 3, 1) := by decide +kernel
theorem dX3_sortByNumber_60 : decode cX3_sortByNumber 60 = .ok (.iload_n 2, 1) := by decide +kernel
theorem dX3_sortByNumber_61 : decode cX3_sortByNumber 61 = .ok (.iastore, 1) := by decide +kernel
theorem dX3_sortByNumber_62 : decode cX3_sortByNumber 62 = .ok (.iinc 1 1, 3) := by decide +kernel
theorem dX3_sortByNumber_65 : decode cX3_sortByNumber 65 = .ok (.goto (-63), 3) := by decide +kernel
theorem dX3_sortByNumber_68 : decode cX3_sortByNumber 68 = .ok (.return_, 1) := by decide +kernel
theorem dX4_init_0 : decode cX4_init 0 = .ok (.aload_n 0, 1) := by decide +kernel
theorem dX4_init_1 : decode cX4_init 1 = .ok (.invokespecial 3, 3) := by decide +kernel
theorem dX4_init_4 : decode cX4_init 4 = .ok (.aload_n 0, 1) := by decide +kernel
theorem dX4_init_5 : decode cX4_init 5 = .ok (.sipush 201, 3) := by decide +kernel
theorem dX4_init_8 : decode cX4_init 8 = .ok (.newarray .int, 2) := by decide +kernel
theorem dX4_init_10 : decode cX4_init 10 = .ok (.putfield 9, 3) := by decide +kernel
theorem dX4_init_13 : decode cX4_init 13 = .ok (.return_, 1) := by decide +kernel
theorem dX4_ofWhole_0 : decode cX4_ofWhole 0 = .ok (.aload_n 0, 1) := by decide +kernel
theorem dX4_ofWhole_1 : decode cX4_ofWhole 1 = .ok (.invokevirtual 15, 3) := by decide +kernel
theorem dX4_ofWhole_4 : decode cX4_ofWhole 4 = .ok (.iconst 1, 1) := by decide +kernel
theorem dX4_ofWhole_5 : decode cX4_ofWhole 5 = .ok (.istore 4, 2) := by decide +kernel
theorem dX4_ofWhole_7 : decode cX4_ofWhole 7 = .ok (.iload 4, 2) := by decide +kernel
theorem dX4_ofWhole_9 : decode cX4_ofWhole 9 = .ok (.iload_n 1, 1) := by decide +kernel
theorem dX4_ofWhole_10 : decode cX4_ofWhole 10 = .ok (.if_icmp .gt 16, 3) := by decide +kernel
theorem dX4_ofWhole_13 : decode cX4_ofWhole 13 = .ok (.aload_n 0, 1) := by decide +kernel
theorem dX4_ofWhole_14 : decode cX4_ofWhole 14 = .ok (.iload 4, 2) := by decide +kernel
theorem dX4_ofWhole_16 : decode cX4_ofWhole 16 = .ok (.iload_n 3, 1) := by decide +kernel
theorem dX4_ofWhole_17 : decode cX4_ofWhole 17 = .ok (.invokevirtual 18, 3) := by decide +kernel
theorem dX4_ofWhole_20 : decode cX4_ofWhole 20 = .ok (.iinc 4 1, 3) := by decide +kernel
theorem dX4_ofWhole_23 : decode cX4_ofWhole 23 = .ok (.goto (-16), 3) := by decide +kernel
theorem dX4_ofWhole_26 : decode cX4_ofWhole 26 = .ok (.aload_n 0, 1) := by decide +kernel
theorem dX4_ofWhole_27 : decode cX4_ofWhole 27 = .ok (.iload_n 2, 1) := by decide +kernel
theorem dX4_ofWhole_28 : decode cX4_ofWhole 28 = .ok (.iload_n 1, 1) := by decide +kernel
theorem dX4_ofWhole_29 : decode cX4_ofWhole 29 = .ok (.invokevirtual 22, 3) := by decide +kernel
theorem dX4_ofWhole_32 : decode cX4_ofWhole 32 = .ok (.ireturn, 1) := by decide +kernel
theorem dX4_fewestFor_0 : decode cX4_fewestFor 0 = .ok (.aload_n 0, 1) := by decide +kernel
theorem dX4_fewestFor_1 : decode cX4_fewestFor 1 = .ok (.invokevirtual 15, 3) := by decide +kernel
theorem dX4_fewestFor_4 : decode cX4_fewestFor 4 = .ok (.aload_n 0, 1) := by decide +kernel
theorem dX4_fewestFor_5 : decode cX4_fewestFor 5 = .ok (.iload_n 1, 1) := by decide +kernel
theorem dX4_fewestFor_6 : decode cX4_fewestFor 6 = .ok (.iconst 0, 1) := by decide +kernel
theorem dX4_fewestFor_7 : decode cX4_fewestFor 7 = .ok (.invokevirtual 22, 3) := by decide +kernel
theorem dX4_fewestFor_10 : decode cX4_fewestFor 10 = .ok (.iload_n 3, 1) := by decide +kernel
theorem dX4_fewestFor_11 : decode cX4_fewestFor 11 = .ok (.if_icmp .lt 5, 3) := by decide +kernel
theorem dX4_fewestFor_14 : decode cX4_fewestFor 14 = .ok (.iconst 0, 1) := by decide +kernel
theorem dX4_fewestFor_15 : decode cX4_fewestFor 15 = .ok (.ireturn, 1) := by decide +kernel
theorem dX4_fewestFor_16 : decode cX4_fewestFor 16 = .ok (.iconst 1, 1) := by decide +kernel
theorem dX4_fewestFor_17 : decode cX4_fewestFor 17 = .ok (.istore 4, 2) := by decide +kernel
theorem dX4_fewestFor_19 : decode cX4_fewestFor 19 = .ok (.iload 4, 2) := by decide +kernel
theorem dX4_fewestFor_21 : decode cX4_fewestFor 21 = .ok (.sipush 200, 3) := by decide +kernel
theorem dX4_fewestFor_24 : decode cX4_fewestFor 24 = .ok (.if_icmp .gt 30, 3) := by decide +kernel
theorem dX4_fewestFor_27 : decode cX4_fewestFor 27 = .ok (.aload_n 0, 1) := by decide +kernel
theorem dX4_fewestFor_28 : decode cX4_fewestFor 28 = .ok (.iload 4, 2) := by decide +kernel
theorem dX4_fewestFor_30 : decode cX4_fewestFor 30 = .ok (.iload_n 2, 1) := by decide +kernel
theorem dX4_fewestFor_31 : decode cX4_fewestFor 31 = .ok (.invokevirtual 18, 3) := by decide +kernel
theorem dX4_fewestFor_34 : decode cX4_fewestFor 34 = .ok (.aload_n 0, 1) := by decide +kernel
theorem dX4_fewestFor_35 : decode cX4_fewestFor 35 = .ok (.iload_n 1, 1) := by decide +kernel
theorem dX4_fewestFor_36 : decode cX4_fewestFor 36 = .ok (.iload 4, 2) := by decide +kernel
theorem dX4_fewestFor_38 : decode cX4_fewestFor 38 = .ok (.invokevirtual 22, 3) := by decide +kernel
theorem dX4_fewestFor_41 : decode cX4_fewestFor 41 = .ok (.iload_n 3, 1) := by decide +kernel
theorem dX4_fewestFor_42 : decode cX4_fewestFor 42 = .ok (.if_icmp .lt 6, 3) := by decide +kernel
theorem dX4_fewestFor_45 : decode cX4_fewestFor 45 = .ok (.iload 4, 2) := by decide +kernel
theorem dX4_fewestFor_47 : decode cX4_fewestFor 47 = .ok (.ireturn, 1) := by decide +kernel
theorem dX4_fewestFor_48 : decode cX4_fewestFor 48 = .ok (.iinc 4 1, 3) := by decide +kernel
theorem dX4_fewestFor_51 : decode cX4_fewestFor 51 = .ok (.goto (-32), 3) := by decide +kernel
theorem dX4_fewestFor_54 : decode cX4_fewestFor 54 = .ok (.bipush (-9), 2) := by decide +kernel
theorem dX4_fewestFor_56 : decode cX4_fewestFor 56 = .ok (.ireturn, 1) := by decide +kernel
theorem dX4_begin_0 : decode cX4_begin 0 = .ok (.iconst 0, 1) := by decide +kernel
theorem dX4_begin_1 : decode cX4_begin 1 = .ok (.istore_n 1, 1) := by decide +kernel
theorem dX4_begin_2 : decode cX4_begin 2 = .ok (.iload_n 1, 1) := by decide +kernel
theorem dX4_begin_3 : decode cX4_begin 3 = .ok (.sipush 200, 3) := by decide +kernel
theorem dX4_begin_6 : decode cX4_begin 6 = .ok (.if_icmp .gt 16, 3) := by decide +kernel
theorem dX4_begin_9 : decode cX4_begin 9 = .ok (.aload_n 0, 1) := by decide +kernel
theorem dX4_begin_10 : decode cX4_begin 10 = .ok (.getfield 9, 3) := by decide +kernel
theorem dX4_begin_13 : decode cX4_begin 13 = .ok (.iload_n 1, 1) := by decide +kernel
theorem dX4_begin_14 : decode cX4_begin 14 = .ok (.iconst 0, 1) := by decide +kernel
theorem dX4_begin_15 : decode cX4_begin 15 = .ok (.iastore, 1) := by decide +kernel
theorem dX4_begin_16 : decode cX4_begin 16 = .ok (.iinc 1 1, 3) := by decide +kernel
theorem dX4_begin_19 : decode cX4_begin 19 = .ok (.goto (-17), 3) := by decide +kernel
theorem dX4_begin_22 : decode cX4_begin 22 = .ok (.aload_n 0, 1) := by decide +kernel
theorem dX4_begin_23 : decode cX4_begin 23 = .ok (.getfield 9, 3) := by decide +kernel
theorem dX4_begin_26 : decode cX4_begin 26 = .ok (.iconst 0, 1) := by decide +kernel
theorem dX4_begin_27 : decode cX4_begin 27 = .ok (.ldc 26, 2) := by decide +kernel
theorem dX4_begin_29 : decode cX4_begin 29 = .ok (.iastore, 1) := by decide +kernel
theorem dX4_begin_30 : decode cX4_begin 30 = .ok (.return_, 1) := by decide +kernel
theorem dX4_makeOneMore_0 : decode cX4_makeOneMore 0 = .ok (.sipush 1024, 3) := by decide +kernel
theorem dX4_makeOneMore_3 : decode cX4_makeOneMore 3 = .ok (.iload_n 2, 1) := by decide +kernel
theorem dX4_makeOneMore_4 : decode cX4_makeOneMore 4 = .ok (.isub, 1) := by decide +kernel
theorem dX4_makeOneMore_5 : decode cX4_makeOneMore 5 = .ok (.istore_n 3, 1) := by decide +kernel
theorem dX4_makeOneMore_6 : decode cX4_makeOneMore 6 = .ok (.iload_n 1, 1) := by decide +kernel
theorem dX4_makeOneMore_7 : decode cX4_makeOneMore 7 = .ok (.istore 4, 2) := by decide +kernel
theorem dX4_makeOneMore_9 : decode cX4_makeOneMore 9 = .ok (.iload 4, 2) := by decide +kernel
theorem dX4_makeOneMore_11 : decode cX4_makeOneMore 11 = .ok (.iconst 1, 1) := by decide +kernel
theorem dX4_makeOneMore_12 : decode cX4_makeOneMore 12 = .ok (.if_icmp .lt 41, 3) := by decide +kernel
theorem dX4_makeOneMore_15 : decode cX4_makeOneMore 15 = .ok (.aload_n 0, 1) := by decide +kernel
theorem dX4_makeOneMore_16 : decode cX4_makeOneMore 16 = .ok (.getfield 9, 3) := by decide +kernel
theorem dX4_makeOneMore_19 : decode cX4_makeOneMore 19 = .ok (.iload 4, 2) := by decide +kernel
theorem dX4_makeOneMore_21 : decode cX4_makeOneMore 21 = .ok (.aload_n 0, 1) := by decide +kernel
theorem dX4_makeOneMore_22 : decode cX4_makeOneMore 22 = .ok (.getfield 9, 3) := by decide +kernel
theorem dX4_makeOneMore_25 : decode cX4_makeOneMore 25 = .ok (.iload 4, 2) := by decide +kernel
theorem dX4_makeOneMore_27 : decode cX4_makeOneMore 27 = .ok (.iaload, 1) := by decide +kernel
theorem dX4_makeOneMore_28 : decode cX4_makeOneMore 28 = .ok (.iload_n 3, 1) := by decide +kernel
theorem dX4_makeOneMore_29 : decode cX4_makeOneMore 29 = .ok (.imul, 1) := by decide +kernel
theorem dX4_makeOneMore_30 : decode cX4_makeOneMore 30 = .ok (.aload_n 0, 1) := by decide +kernel
theorem dX4_makeOneMore_31 : decode cX4_makeOneMore 31 = .ok (.getfield 9, 3) := by decide +kernel
theorem dX4_makeOneMore_34 : decode cX4_makeOneMore 34 = .ok (.iload 4, 2) := by decide +kernel
theorem dX4_makeOneMore_36 : decode cX4_makeOneMore 36 = .ok (.iconst 1, 1) := by decide +kernel
theorem dX4_makeOneMore_37 : decode cX4_makeOneMore 37 = .ok (.isub, 1) := by decide +kernel
theorem dX4_makeOneMore_38 : decode cX4_makeOneMore 38 = .ok (.iaload, 1) := by decide +kernel
theorem dX4_makeOneMore_39 : decode cX4_makeOneMore 39 = .ok (.iload_n 2, 1) := by decide +kernel
theorem dX4_makeOneMore_40 : decode cX4_makeOneMore 40 = .ok (.imul, 1) := by decide +kernel
theorem dX4_makeOneMore_41 : decode cX4_makeOneMore 41 = .ok (.iadd, 1) := by decide +kernel
theorem dX4_makeOneMore_42 : decode cX4_makeOneMore 42 = .ok (.sipush 1024, 3) := by decide +kernel
theorem dX4_makeOneMore_45 : decode cX4_makeOneMore 45 = .ok (.idiv, 1) := by decide +kernel
theorem dX4_makeOneMore_46 : decode cX4_makeOneMore 46 = .ok (.iastore, 1) := by decide +kernel
theorem dX4_makeOneMore_47 : decode cX4_makeOneMore 47 = .ok (.iinc 4 (-1), 3) := by decide +kernel
theorem dX4_makeOneMore_50 : decode cX4_makeOneMore 50 = .ok (.goto (-41), 3) := by decide +kernel
theorem dX4_makeOneMore_53 : decode cX4_makeOneMore 53 = .ok (.aload_n 0, 1) := by decide +kernel
theorem dX4_makeOneMore_54 : decode cX4_makeOneMore 54 = .ok (.getfield 9, 3) := by decide +kernel
theorem dX4_makeOneMore_57 : decode cX4_makeOneMore 57 = .ok (.iconst 0, 1) := by decide +kernel
theorem dX4_makeOneMore_58 : decode cX4_makeOneMore 58 = .ok (.aload_n 0, 1) := by decide +kernel
theorem dX4_makeOneMore_59 : decode cX4_makeOneMore 59 = .ok (.getfield 9, 3) := by decide +kernel
theorem dX4_makeOneMore_62 : decode cX4_makeOneMore 62 = .ok (.iconst 0, 1) := by decide +kernel
theorem dX4_makeOneMore_63 : decode cX4_makeOneMore 63 = .ok (.iaload, 1) := by decide +kernel
theorem dX4_makeOneMore_64 : decode cX4_makeOneMore 64 = .ok (.iload_n 3, 1) := by decide +kernel
theorem dX4_makeOneMore_65 : decode cX4_makeOneMore 65 = .ok (.imul, 1) := by decide +kernel
theorem dX4_makeOneMore_66 : decode cX4_makeOneMore 66 = .ok (.sipush 1024, 3) := by decide +kernel
theorem dX4_makeOneMore_69 : decode cX4_makeOneMore 69 = .ok (.idiv, 1) := by decide +kernel
theorem dX4_makeOneMore_70 : decode cX4_makeOneMore 70 = .ok (.iastore, 1) := by decide +kernel
theorem dX4_makeOneMore_71 : decode cX4_makeOneMore 71 = .ok (.return_, 1) := by decide +kernel
theorem dX4_orMore_0 : decode cX4_orMore 0 = .ok (.iconst 0, 1) := by decide +kernel
theorem dX4_orMore_1 : decode cX4_orMore 1 = .ok (.istore_n 3, 1) := by decide +kernel
theorem dX4_orMore_2 : decode cX4_orMore 2 = .ok (.iload_n 1, 1) := by decide +kernel
theorem dX4_orMore_3 : decode cX4_orMore 3 = .ok (.istore 4, 2) := by decide +kernel
theorem dX4_orMore_5 : decode cX4_orMore 5 = .ok (.iload 4, 2) := by decide +kernel
theorem dX4_orMore_7 : decode cX4_orMore 7 = .ok (.iload_n 2, 1) := by decide +kernel
theorem dX4_orMore_8 : decode cX4_orMore 8 = .ok (.if_icmp .gt 19, 3) := by decide +kernel
theorem dX4_orMore_11 : decode cX4_orMore 11 = .ok (.iload_n 3, 1) := by decide +kernel
theorem dX4_orMore_12 : decode cX4_orMore 12 = .ok (.aload_n 0, 1) := by decide +kernel
theorem dX4_orMore_13 : decode cX4_orMore 13 = .ok (.getfield 9, 3) := by decide +kernel
theorem dX4_orMore_16 : decode cX4_orMore 16 = .ok (.iload 4, 2) := by decide +kernel
theorem dX4_orMore_18 : decode cX4_orMore 18 = .ok (.iaload, 1) := by decide +kernel
theorem dX4_orMore_19 : decode cX4_orMore 19 = .ok (.iadd, 1) := by decide +kernel
theorem dX4_orMore_20 : decode cX4_orMore 20 = .ok (.istore_n 3, 1) := by decide +kernel
theorem dX4_orMore_21 : decode cX4_orMore 21 = .ok (.iinc 4 1, 3) := by decide +kernel
theorem dX4_orMore_24 : decode cX4_orMore 24 = .ok (.goto (-19), 3) := by decide +kernel
theorem dX4_orMore_27 : decode cX4_orMore 27 = .ok (.iload_n 3, 1) := by decide +kernel
theorem dX4_orMore_28 : decode cX4_orMore 28 = .ok (.ireturn, 1) := by decide +kernel
theorem dX5_init_0 : decode cX5_init 0 = .ok (.aload_n 0, 1) := by decide +kernel
theorem dX5_init_1 : decode cX5_init 1 = .ok (.invokespecial 3, 3) := by decide +kernel
theorem dX5_init_4 : decode cX5_init 4 = .ok (.aload_n 0, 1) := by decide +kernel
theorem dX5_init_5 : decode cX5_init 5 = .ok (.bipush 12, 2) := by decide +kernel
theorem dX5_init_7 : decode cX5_init 7 = .ok (.newarray .int, 2) := by decide +kernel
theorem dX5_init_9 : decode cX5_init 9 = .ok (.putfield 9, 3) := by decide +kernel
theorem dX5_init_12 : decode cX5_init 12 = .ok (.aload_n 0, 1) := by decide +kernel
theorem dX5_init_13 : decode cX5_init 13 = .ok (.bipush 12, 2) := by decide +kernel
theorem dX5_init_15 : decode cX5_init 15 = .ok (.newarray .int, 2) := by decide +kernel
theorem dX5_init_17 : decode cX5_init 17 = .ok (.putfield 15, 3) := by decide +kernel
theorem dX5_init_20 : decode cX5_init 20 = .ok (.aload_n 0, 1) := by decide +kernel
theorem dX5_init_21 : decode cX5_init 21 = .ok (.bipush 12, 2) := by decide +kernel
theorem dX5_init_23 : decode cX5_init 23 = .ok (.newarray .int, 2) := by decide +kernel
theorem dX5_init_25 : decode cX5_init 25 = .ok (.putfield 18, 3) := by decide +kernel
theorem dX5_init_28 : decode cX5_init 28 = .ok (.return_, 1) := by decide +kernel
theorem dX5_plan_0 : decode cX5_plan 0 = .ok (.iload_n 1, 1) := by decide +kernel
theorem dX5_plan_1 : decode cX5_plan 1 = .ok (.istore_n 2, 1) := by decide +kernel
theorem dX5_plan_2 : decode cX5_plan 2 = .ok (.iconst 0, 1) := by decide +kernel
theorem dX5_plan_3 : decode cX5_plan 3 = .ok (.istore_n 3, 1) := by decide +kernel
theorem dX5_plan_4 : decode cX5_plan 4 = .ok (.iconst 0, 1) := by decide +kernel
theorem dX5_plan_5 : decode cX5_plan 5 = .ok (.istore 4, 2) := by decide +kernel
theorem dX5_plan_7 : decode cX5_plan 7 = .ok (.iload 4, 2) := by decide +kernel
theorem dX5_plan_9 : decode cX5_plan 9 = .ok (.bipush 12, 2) := by decide +kernel
theorem dX5_plan_11 : decode cX5_plan 11 = .ok (.if_icmp .ge 39, 3) := by decide +kernel
theorem dX5_plan_14 : decode cX5_plan 14 = .ok (.iload_n 2, 1) := by decide +kernel
theorem dX5_plan_15 : decode cX5_plan 15 = .ok (.ifCond .eq 35, 3) := by decide +kernel
theorem dX5_plan_18 : decode cX5_plan 18 = .ok (.aload_n 0, 1) := by decide +kernel
theorem dX5_plan_19 : decode cX5_plan 19 = .ok (.iload_n 2, 1) := by decide +kernel
theorem dX5_plan_20 : decode cX5_plan 20 = .ok (.invokevirtual 21, 3) := by decide +kernel
theorem dX5_plan_23 : decode cX5_plan 23 = .ok (.istore 5, 2) := by decide +kernel
theorem dX5_plan_25 : decode cX5_plan 25 = .ok (.aload_n 0, 1) := by decide +kernel
theorem dX5_plan_26 : decode cX5_plan 26 = .ok (.getfield 18, 3) := by decide +kernel
theorem dX5_plan_29 : decode cX5_plan 29 = .ok (.iload_n 3, 1) := by decide +kernel
theorem dX5_plan_30 : decode cX5_plan 30 = .ok (.iload 5, 2) := by decide +kernel
theorem dX5_plan_32 : decode cX5_plan 32 = .ok (.iastore, 1) := by decide +kernel
theorem dX5_plan_33 : decode cX5_plan 33 = .ok (.iinc 3 1, 3) := by decide +kernel
theorem dX5_plan_36 : decode cX5_plan 36 = .ok (.aload_n 0, 1) := by decide +kernel
theorem dX5_plan_37 : decode cX5_plan 37 = .ok (.iload_n 2, 1) := by decide +kernel
theorem dX5_plan_38 : decode cX5_plan 38 = .ok (.iload 5, 2) := by decide +kernel
theorem dX5_plan_40 : decode cX5_plan 40 = .ok (.invokevirtual 25, 3) := by decide +kernel
theorem dX5_plan_43 : decode cX5_plan 43 = .ok (.istore_n 2, 1) := by decide +kernel
theorem dX5_plan_44 : decode cX5_plan 44 = .ok (.iinc 4 1, 3) := by decide +kernel
theorem dX5_plan_47 : decode cX5_plan 47 = .ok (.goto (-40), 3) := by decide +kernel
theorem dX5_plan_50 : decode cX5_plan 50 = .ok (.iload_n 3, 1) := by decide +kernel
theorem dX5_plan_51 : decode cX5_plan 51 = .ok (.ireturn, 1) := by decide +kernel
theorem dX5_greatestFrom_0 : decode cX5_greatestFrom 0 = .ok (.iconst 0, 1) := by decide +kernel
theorem dX5_greatestFrom_1 : decode cX5_greatestFrom 1 = .ok (.istore_n 2, 1) := by decide +kernel
theorem dX5_greatestFrom_2 : decode cX5_greatestFrom 2 = .ok (.iconst 0, 1) := by decide +kernel
theorem dX5_greatestFrom_3 : decode cX5_greatestFrom 3 = .ok (.istore_n 3, 1) := by decide +kernel
theorem dX5_greatestFrom_4 : decode cX5_greatestFrom 4 = .ok (.iload_n 3, 1) := by decide +kernel
theorem dX5_greatestFrom_5 : decode cX5_greatestFrom 5 = .ok (.bipush 12, 2) := by decide +kernel
theorem dX5_greatestFrom_7 : decode cX5_greatestFrom 7 = .ok (.if_icmp .ge 28, 3) := by decide +kernel
theorem dX5_greatestFrom_10 : decode cX5_greatestFrom 10 = .ok (.iload_n 1, 1) := by decide +kernel
theorem dX5_greatestFrom_11 : decode cX5_greatestFrom 11 = .ok (.iconst 1, 1) := by decide +kernel
theorem dX5_greatestFrom_12 : decode cX5_greatestFrom 12 = .ok (.iload_n 3, 1) := by decide +kernel
theorem dX5_greatestFrom_13 : decode cX5_greatestFrom 13 = .ok (.ishl, 1) := by decide +kernel
theorem dX5_greatestFrom_14 : decode cX5_greatestFrom 14 = .ok (.iand, 1) := by decide +kernel
theorem dX5_greatestFrom_15 : decode cX5_greatestFrom 15 = .ok (.ifCond .eq 14, 3) := by decide +kernel
theorem dX5_greatestFrom_18 : decode cX5_greatestFrom 18 = .ok (.iload_n 2, 1) := by decide +kernel
theorem dX5_greatestFrom_19 : decode cX5_greatestFrom 19 = .ok (.aload_n 0, 1) := by decide +kernel
theorem dX5_greatestFrom_20 : decode cX5_greatestFrom 20 = .ok (.getfield 9, 3) := by decide +kernel
theorem dX5_greatestFrom_23 : decode cX5_greatestFrom 23 = .ok (.iload_n 3, 1) := by decide +kernel
theorem dX5_greatestFrom_24 : decode cX5_greatestFrom 24 = .ok (.iaload, 1) := by decide +kernel
theorem dX5_greatestFrom_25 : decode cX5_greatestFrom 25 = .ok (.invokestatic 29, 3) := by decide +kernel
theorem dX5_greatestFrom_28 : decode cX5_greatestFrom 28 = .ok (.istore_n 2, 1) := by decide +kernel
theorem dX5_greatestFrom_29 : decode cX5_greatestFrom 29 = .ok (.iinc 3 1, 3) := by decide +kernel
theorem dX5_greatestFrom_32 : decode cX5_greatestFrom 32 = .ok (.goto (-28), 3) := by decide +kernel
theorem dX5_greatestFrom_35 : decode cX5_greatestFrom 35 = .ok (.iload_n 2, 1) := by decide +kernel
theorem dX5_greatestFrom_36 : decode cX5_greatestFrom 36 = .ok (.ireturn, 1) := by decide +kernel
theorem dX5_stillUnfixed_0 : decode cX5_stillUnfixed 0 = .ok (.iload_n 1, 1) := by decide +kernel
theorem dX5_stillUnfixed_1 : decode cX5_stillUnfixed 1 = .ok (.istore_n 3, 1) := by decide +kernel
theorem dX5_stillUnfixed_2 : decode cX5_stillUnfixed 2 = .ok (.iconst 0, 1) := by decide +kernel
theorem dX5_stillUnfixed_3 : decode cX5_stillUnfixed 3 = .ok (.istore 4, 2) := by decide +kernel
theorem dX5_stillUnfixed_5 : decode cX5_stillUnfixed 5 = .ok (.iload 4, 2) := by decide +kernel
theorem dX5_stillUnfixed_7 : decode cX5_stillUnfixed 7 = .ok (.bipush 12, 2) := by decide +kernel
theorem dX5_stillUnfixed_9 : decode cX5_stillUnfixed 9 = .ok (.if_icmp .ge 40, 3) := by decide +kernel
theorem dX5_stillUnfixed_12 : decode cX5_stillUnfixed 12 = .ok (.aload_n 0, 1) := by decide +kernel
theorem dX5_stillUnfixed_13 : decode cX5_stillUnfixed 13 = .ok (.getfield 9, 3) := by decide +kernel
theorem dX5_stillUnfixed_16 : decode cX5_stillUnfixed 16 = .ok (.iload 4, 2) := by decide +kernel
theorem dX5_stillUnfixed_18 : decode cX5_stillUnfixed 18 = .ok (.iaload, 1) := by decide +kernel
theorem dX5_stillUnfixed_19 : decode cX5_stillUnfixed 19 = .ok (.iload_n 2, 1) := by decide +kernel
theorem dX5_stillUnfixed_20 : decode cX5_stillUnfixed 20 = .ok (.if_icmp .gt 23, 3) := by decide +kernel
theorem dX5_stillUnfixed_23 : decode cX5_stillUnfixed 23 = .ok (.iload_n 2, 1) := by decide +kernel
theorem dX5_stillUnfixed_24 : decode cX5_stillUnfixed 24 = .ok (.aload_n 0, 1) := by decide +kernel
theorem dX5_stillUnfixed_25 : decode cX5_stillUnfixed 25 = .ok (.getfield 15, 3) := by decide +kernel
theorem dX5_stillUnfixed_28 : decode cX5_stillUnfixed 28 = .ok (.iload 4, 2) := by decide +kernel
theorem dX5_stillUnfixed_30 : decode cX5_stillUnfixed 30 = .ok (.iaload, 1) := by decide +kernel
theorem dX5_stillUnfixed_31 : decode cX5_stillUnfixed 31 = .ok (.if_icmp .gt 12, 3) := by decide +kernel
theorem dX5_stillUnfixed_34 : decode cX5_stillUnfixed 34 = .ok (.iload_n 3, 1) := by decide +kernel
theorem dX5_stillUnfixed_35 : decode cX5_stillUnfixed 35 = .ok (.iconst 1, 1) := by decide +kernel
theorem dX5_stillUnfixed_36 : decode cX5_stillUnfixed 36 = .ok (.iload 4, 2) := by decide +kernel
theorem dX5_stillUnfixed_38 : decode cX5_stillUnfixed 38 = .ok (.ishl, 1) := by decide +kernel
theorem dX5_stillUnfixed_39 : decode cX5_stillUnfixed 39 = .ok (.iconst (-1), 1) := by decide +kernel
theorem dX5_stillUnfixed_40 : decode cX5_stillUnfixed 40 = .ok (.ixor, 1) := by decide +kernel
theorem dX5_stillUnfixed_41 : decode cX5_stillUnfixed 41 = .ok (.iand, 1) := by decide +kernel
theorem dX5_stillUnfixed_42 : decode cX5_stillUnfixed 42 = .ok (.istore_n 3, 1) := by decide +kernel
theorem dX5_stillUnfixed_43 : decode cX5_stillUnfixed 43 = .ok (.iinc 4 1, 3) := by decide +kernel
theorem dX5_stillUnfixed_46 : decode cX5_stillUnfixed 46 = .ok (.goto (-41), 3) := by decide +kernel
theorem dX5_stillUnfixed_49 : decode cX5_stillUnfixed 49 = .ok (.iload_n 3, 1) := by decide +kernel
theorem dX5_stillUnfixed_50 : decode cX5_stillUnfixed 50 = .ok (.ireturn, 1) := by decide +kernel
theorem dX6_init_0 : decode cX6_init 0 = .ok (.aload_n 0, 1) := by decide +kernel
theorem dX6_init_1 : decode cX6_init 1 = .ok (.invokespecial 3, 3) := by decide +kernel
theorem dX6_init_4 : decode cX6_init 4 = .ok (.aload_n 0, 1) := by decide +kernel
theorem dX6_init_5 : decode cX6_init 5 = .ok (.bipush 80, 2) := by decide +kernel
theorem dX6_init_7 : decode cX6_init 7 = .ok (.newarray .int, 2) := by decide +kernel
theorem dX6_init_9 : decode cX6_init 9 = .ok (.putfield 9, 3) := by decide +kernel
theorem dX6_init_12 : decode cX6_init 12 = .ok (.aload_n 0, 1) := by decide +kernel
theorem dX6_init_13 : decode cX6_init 13 = .ok (.bipush 80, 2) := by decide +kernel
theorem dX6_init_15 : decode cX6_init 15 = .ok (.newarray .int, 2) := by decide +kernel
theorem dX6_init_17 : decode cX6_init 17 = .ok (.putfield 15, 3) := by decide +kernel
theorem dX6_init_20 : decode cX6_init 20 = .ok (.aload_n 0, 1) := by decide +kernel
theorem dX6_init_21 : decode cX6_init 21 = .ok (.bipush 80, 2) := by decide +kernel
theorem dX6_init_23 : decode cX6_init 23 = .ok (.newarray .int, 2) := by decide +kernel
theorem dX6_init_25 : decode cX6_init 25 = .ok (.putfield 18, 3) := by decide +kernel
theorem dX6_init_28 : decode cX6_init 28 = .ok (.aload_n 0, 1) := by decide +kernel
theorem dX6_init_29 : decode cX6_init 29 = .ok (.bipush 80, 2) := by decide +kernel
theorem dX6_init_31 : decode cX6_init 31 = .ok (.newarray .int, 2) := by decide +kernel
theorem dX6_init_33 : decode cX6_init 33 = .ok (.putfield 21, 3) := by decide +kernel
theorem dX6_init_36 : decode cX6_init 36 = .ok (.aload_n 0, 1) := by decide +kernel
theorem dX6_init_37 : decode cX6_init 37 = .ok (.bipush 80, 2) := by decide +kernel
theorem dX6_init_39 : decode cX6_init 39 = .ok (.newarray .int, 2) := by decide +kernel
theorem dX6_init_41 : decode cX6_init 41 = .ok (.putfield 24, 3) := by decide +kernel
theorem dX6_init_44 : decode cX6_init 44 = .ok (.aload_n 0, 1) := by decide +kernel
theorem dX6_init_45 : decode cX6_init 45 = .ok (.bipush 80, 2) := by decide +kernel
theorem dX6_init_47 : decode cX6_init 47 = .ok (.newarray .int, 2) := by decide +kernel
theorem dX6_init_49 : decode cX6_init 49 = .ok (.putfield 27, 3) := by decide +kernel
theorem dX6_init_52 : decode cX6_init 52 = .ok (.aload_n 0, 1) := by decide +kernel
theorem dX6_init_53 : decode cX6_init 53 = .ok (.bipush 80, 2) := by decide +kernel
theorem dX6_init_55 : decode cX6_init 55 = .ok (.newarray .int, 2) := by decide +kernel
theorem dX6_init_57 : decode cX6_init 57 = .ok (.putfield 30, 3) := by decide +kernel
theorem dX6_init_60 : decode cX6_init 60 = .ok (.aload_n 0, 1) := by decide +kernel
theorem dX6_init_61 : decode cX6_init 61 = .ok (.iconst 0, 1) := by decide +kernel
theorem dX6_init_62 : decode cX6_init 62 = .ok (.putfield 33, 3) := by decide +kernel
theorem dX6_init_65 : decode cX6_init 65 = .ok (.return_, 1) := by decide +kernel
theorem dX6_shape_0 : decode cX6_shape 0 = .ok (.aload_n 0, 1) := by decide +kernel
theorem dX6_shape_1 : decode cX6_shape 1 = .ok (.getfield 9, 3) := by decide +kernel
theorem dX6_shape_4 : decode cX6_shape 4 = .ok (.aload_n 0, 1) := by decide +kernel
theorem dX6_shape_5 : decode cX6_shape 5 = .ok (.getfield 33, 3) := by decide +kernel
theorem dX6_shape_8 : decode cX6_shape 8 = .ok (.iload_n 1, 1) := by decide +kernel
theorem dX6_shape_9 : decode cX6_shape 9 = .ok (.iastore, 1) := by decide +kernel
theorem dX6_shape_10 : decode cX6_shape 10 = .ok (.aload_n 0, 1) := by decide +kernel
theorem dX6_shape_11 : decode cX6_shape 11 = .ok (.getfield 15, 3) := by decide +kernel
theorem dX6_shape_14 : decode cX6_shape 14 = .ok (.aload_n 0, 1) := by decide +kernel
theorem dX6_shape_15 : decode cX6_shape 15 = .ok (.getfield 33, 3) := by decide +kernel
theorem dX6_shape_18 : decode cX6_shape 18 = .ok (.iload_n 2, 1) := by decide +kernel
theorem dX6_shape_19 : decode cX6_shape 19 = .ok (.iastore, 1) := by decide +kernel
theorem dX6_shape_20 : decode cX6_shape 20 = .ok (.aload_n 0, 1) := by decide +kernel
theorem dX6_shape_21 : decode cX6_shape 21 = .ok (.getfield 18, 3) := by decide +kernel
theorem dX6_shape_24 : decode cX6_shape 24 = .ok (.aload_n 0, 1) := by decide +kernel
theorem dX6_shape_25 : decode cX6_shape 25 = .ok (.getfield 33, 3) := by decide +kernel
theorem dX6_shape_28 : decode cX6_shape 28 = .ok (.iload_n 3, 1) := by decide +kernel
theorem dX6_shape_29 : decode cX6_shape 29 = .ok (.iastore, 1) := by decide +kernel
theorem dX6_shape_30 : decode cX6_shape 30 = .ok (.aload_n 0, 1) := by decide +kernel
theorem dX6_shape_31 : decode cX6_shape 31 = .ok (.getfield 21, 3) := by decide +kernel
theorem dX6_shape_34 : decode cX6_shape 34 = .ok (.aload_n 0, 1) := by decide +kernel
theorem dX6_shape_35 : decode cX6_shape 35 = .ok (.getfield 33, 3) := by decide +kernel
theorem dX6_shape_38 : decode cX6_shape 38 = .ok (.iconst 0, 1) := by decide +kernel
theorem dX6_shape_39 : decode cX6_shape 39 = .ok (.iastore, 1) := by decide +kernel
theorem dX6_shape_40 : decode cX6_shape 40 = .ok (.aload_n 0, 1) := by decide +kernel
theorem dX6_shape_41 : decode cX6_shape 41 = .ok (.getfield 24, 3) := by decide +kernel
theorem dX6_shape_44 : decode cX6_shape 44 = .ok (.aload_n 0, 1) := by decide +kernel
theorem dX6_shape_45 : decode cX6_shape 45 = .ok (.getfield 33, 3) := by decide +kernel
theorem dX6_shape_48 : decode cX6_shape 48 = .ok (.bipush (-9), 2) := by decide +kernel
theorem dX6_shape_50 : decode cX6_shape 50 = .ok (.iastore, 1) := by decide +kernel
theorem dX6_shape_51 : decode cX6_shape 51 = .ok (.aload_n 0, 1) := by decide +kernel
theorem dX6_shape_52 : decode cX6_shape 52 = .ok (.getfield 27, 3) := by decide +kernel
theorem dX6_shape_55 : decode cX6_shape 55 = .ok (.aload_n 0, 1) := by decide +kernel
theorem dX6_shape_56 : decode cX6_shape 56 = .ok (.getfield 33, 3) := by decide +kernel
theorem dX6_shape_59 : decode cX6_shape 59 = .ok (.bipush (-9), 2) := by decide +kernel
theorem dX6_shape_61 : decode cX6_shape 61 = .ok (.iastore, 1) := by decide +kernel
theorem dX6_shape_62 : decode cX6_shape 62 = .ok (.aload_n 0, 1) := by decide +kernel
theorem dX6_shape_63 : decode cX6_shape 63 = .ok (.getfield 30, 3) := by decide +kernel
theorem dX6_shape_66 : decode cX6_shape 66 = .ok (.aload_n 0, 1) := by decide +kernel
theorem dX6_shape_67 : decode cX6_shape 67 = .ok (.getfield 33, 3) := by decide +kernel
theorem dX6_shape_70 : decode cX6_shape 70 = .ok (.bipush (-9), 2) := by decide +kernel
theorem dX6_shape_72 : decode cX6_shape 72 = .ok (.iastore, 1) := by decide +kernel
theorem dX6_shape_73 : decode cX6_shape 73 = .ok (.aload_n 0, 1) := by decide +kernel
theorem dX6_shape_74 : decode cX6_shape 74 = .ok (.dup, 1) := by decide +kernel
theorem dX6_shape_75 : decode cX6_shape 75 = .ok (.getfield 33, 3) := by decide +kernel
theorem dX6_shape_78 : decode cX6_shape 78 = .ok (.iconst 1, 1) := by decide +kernel
theorem dX6_shape_79 : decode cX6_shape 79 = .ok (.iadd, 1) := by decide +kernel
theorem dX6_shape_80 : decode cX6_shape 80 = .ok (.putfield 33, 3) := by decide +kernel
theorem dX6_shape_83 : decode cX6_shape 83 = .ok (.aload_n 0, 1) := by decide +kernel
theorem dX6_shape_84 : decode cX6_shape 84 = .ok (.getfield 33, 3) := by decide +kernel
theorem dX6_shape_87 : decode cX6_shape 87 = .ok (.iconst 1, 1) := by decide +kernel
theorem dX6_shape_88 : decode cX6_shape 88 = .ok (.isub, 1) := by decide +kernel
theorem dX6_shape_89 : decode cX6_shape 89 = .ok (.ireturn, 1) := by decide +kernel
theorem dX6_endure_0 : decode cX6_endure 0 = .ok (.aload_n 0, 1) := by decide +kernel
theorem dX6_endure_1 : decode cX6_endure 1 = .ok (.getfield 27, 3) := by decide +kernel
theorem dX6_endure_4 : decode cX6_endure 4 = .ok (.iload_n 1, 1) := by decide +kernel
theorem dX6_endure_5 : decode cX6_endure 5 = .ok (.iload_n 2, 1) := by decide +kernel
theorem dX6_endure_6 : decode cX6_endure 6 = .ok (.iastore, 1) := by decide +kernel
theorem dX6_endure_7 : decode cX6_endure 7 = .ok (.aload_n 3, 1) := by decide +kernel
theorem dX6_endure_8 : decode cX6_endure 8 = .ok (.aload_n 0, 1) := by decide +kernel
theorem dX6_endure_9 : decode cX6_endure 9 = .ok (.getfield 9, 3) := by decide +kernel
theorem dX6_endure_12 : decode cX6_endure 12 = .ok (.iload_n 1, 1) := by decide +kernel
theorem dX6_endure_13 : decode cX6_endure 13 = .ok (.iaload, 1) := by decide +kernel
theorem dX6_endure_14 : decode cX6_endure 14 = .ok (.iload_n 2, 1) := by decide +kernel
theorem dX6_endure_15 : decode cX6_endure 15 = .ok (.invokevirtual 37, 3) := by decide +kernel
theorem dX6_endure_18 : decode cX6_endure 18 = .ok (.ifCond .ne 12, 3) := by decide +kernel
theorem dX6_endure_21 : decode cX6_endure 21 = .ok (.aload_n 0, 1) := by decide +kernel
theorem dX6_endure_22 : decode cX6_endure 22 = .ok (.getfield 21, 3) := by decide +kernel
theorem dX6_endure_25 : decode cX6_endure 25 = .ok (.iload_n 1, 1) := by decide +kernel
theorem dX6_endure_26 : decode cX6_endure 26 = .ok (.iconst 3, 1) := by decide +kernel
theorem dX6_endure_27 : decode cX6_endure 27 = .ok (.iastore, 1) := by decide +kernel
theorem dX6_endure_28 : decode cX6_endure 28 = .ok (.iconst 0, 1) := by decide +kernel
theorem dX6_endure_29 : decode cX6_endure 29 = .ok (.ireturn, 1) := by decide +kernel
theorem dX6_endure_30 : decode cX6_endure 30 = .ok (.aload_n 0, 1) := by decide +kernel
theorem dX6_endure_31 : decode cX6_endure 31 = .ok (.getfield 21, 3) := by decide +kernel
theorem dX6_endure_34 : decode cX6_endure 34 = .ok (.iload_n 1, 1) := by decide +kernel
theorem dX6_endure_35 : decode cX6_endure 35 = .ok (.iconst 1, 1) := by decide +kernel
theorem dX6_endure_36 : decode cX6_endure 36 = .ok (.iastore, 1) := by decide +kernel
theorem dX6_endure_37 : decode cX6_endure 37 = .ok (.aload_n 0, 1) := by decide +kernel
theorem dX6_endure_38 : decode cX6_endure 38 = .ok (.getfield 18, 3) := by decide +kernel
theorem dX6_endure_41 : decode cX6_endure 41 = .ok (.iload_n 1, 1) := by decide +kernel
theorem dX6_endure_42 : decode cX6_endure 42 = .ok (.aload_n 3, 1) := by decide +kernel
theorem dX6_endure_43 : decode cX6_endure 43 = .ok (.aload_n 0, 1) := by decide +kernel
theorem dX6_endure_44 : decode cX6_endure 44 = .ok (.getfield 9, 3) := by decide +kernel
theorem dX6_endure_47 : decode cX6_endure 47 = .ok (.iload_n 1, 1) := by decide +kernel
theorem dX6_endure_48 : decode cX6_endure 48 = .ok (.iaload, 1) := by decide +kernel
theorem dX6_endure_49 : decode cX6_endure 49 = .ok (.aload_n 0, 1) := by decide +kernel
theorem dX6_endure_50 : decode cX6_endure 50 = .ok (.getfield 18, 3) := by decide +kernel
theorem dX6_endure_53 : decode cX6_endure 53 = .ok (.iload_n 1, 1) := by decide +kernel
theorem dX6_endure_54 : decode cX6_endure 54 = .ok (.iaload, 1) := by decide +kernel
theorem dX6_endure_55 : decode cX6_endure 55 = .ok (.invokevirtual 43, 3) := by decide +kernel
theorem dX6_endure_58 : decode cX6_endure 58 = .ok (.iastore, 1) := by decide +kernel
theorem dX6_endure_59 : decode cX6_endure 59 = .ok (.aload_n 0, 1) := by decide +kernel
theorem dX6_endure_60 : decode cX6_endure 60 = .ok (.getfield 30, 3) := by decide +kernel
theorem dX6_endure_63 : decode cX6_endure 63 = .ok (.iload_n 1, 1) := by decide +kernel
theorem dX6_endure_64 : decode cX6_endure 64 = .ok (.aload_n 3, 1) := by decide +kernel
theorem dX6_endure_65 : decode cX6_endure 65 = .ok (.aload_n 0, 1) := by decide +kernel
theorem dX6_endure_66 : decode cX6_endure 66 = .ok (.getfield 9, 3) := by decide +kernel
theorem dX6_endure_69 : decode cX6_endure 69 = .ok (.iload_n 1, 1) := by decide +kernel
theorem dX6_endure_70 : decode cX6_endure 70 = .ok (.iaload, 1) := by decide +kernel
theorem dX6_endure_71 : decode cX6_endure 71 = .ok (.iload_n 2, 1) := by decide +kernel
theorem dX6_endure_72 : decode cX6_endure 72 = .ok (.invokevirtual 47, 3) := by decide +kernel
theorem dX6_endure_75 : decode cX6_endure 75 = .ok (.iastore, 1) := by decide +kernel
theorem dX6_endure_76 : decode cX6_endure 76 = .ok (.iconst 1, 1) := by decide +kernel
theorem dX6_endure_77 : decode cX6_endure 77 = .ok (.ireturn, 1) := by decide +kernel
theorem dX6_isForSale_0 : decode cX6_isForSale 0 = .ok (.aload_n 0, 1) := by decide +kernel
theorem dX6_isForSale_1 : decode cX6_isForSale 1 = .ok (.getfield 21, 3) := by decide +kernel
theorem dX6_isForSale_4 : decode cX6_isForSale 4 = .ok (.iload_n 1, 1) := by decide +kernel
theorem dX6_isForSale_5 : decode cX6_isForSale 5 = .ok (.iaload, 1) := by decide +kernel
theorem dX6_isForSale_6 : decode cX6_isForSale 6 = .ok (.iconst 1, 1) := by decide +kernel
theorem dX6_isForSale_7 : decode cX6_isForSale 7 = .ok (.if_icmp .eq 13, 3) := by decide +kernel
theorem dX6_isForSale_10 : decode cX6_isForSale 10 = .ok (.aload_n 0, 1) := by decide +kernel
theorem dX6_isForSale_11 : decode cX6_isForSale 11 = .ok (.getfield 21, 3) := by decide +kernel
theorem dX6_isForSale_14 : decode cX6_isForSale 14 = .ok (.iload_n 1, 1) := by decide +kernel
theorem dX6_isForSale_15 : decode cX6_isForSale 15 = .ok (.iaload, 1) := by decide +kernel
theorem dX6_isForSale_16 : decode cX6_isForSale 16 = .ok (.iconst 2, 1) := by decide +kernel
theorem dX6_isForSale_17 : decode cX6_isForSale 17 = .ok (.if_icmp .ne 7, 3) := by decide +kernel
theorem dX6_isForSale_20 : decode cX6_isForSale 20 = .ok (.iconst 1, 1) := by decide +kernel
theorem dX6_isForSale_21 : decode cX6_isForSale 21 = .ok (.goto 4, 3) := by decide +kernel
theorem dX6_isForSale_24 : decode cX6_isForSale 24 = .ok (.iconst 0, 1) := by decide +kernel
theorem dX6_isForSale_25 : decode cX6_isForSale 25 = .ok (.ireturn, 1) := by decide +kernel
theorem dX6_inState_0 : decode cX6_inState 0 = .ok (.iconst 0, 1) := by decide +kernel
theorem dX6_inState_1 : decode cX6_inState 1 = .ok (.istore_n 2, 1) := by decide +kernel
theorem dX6_inState_2 : decode cX6_inState 2 = .ok (.iconst 0, 1) := by decide +kernel
theorem dX6_inState_3 : decode cX6_inState 3 = .ok (.istore_n 3, 1) := by decide +kernel
theorem dX6_inState_4 : decode cX6_inState 4 = .ok (.iload_n 3, 1) := by decide +kernel
theorem dX6_inState_5 : decode cX6_inState 5 = .ok (.aload_n 0, 1) := by decide +kernel
theorem dX6_inState_6 : decode cX6_inState 6 = .ok (.getfield 33, 3) := by decide +kernel
theorem dX6_inState_9 : decode cX6_inState 9 = .ok (.if_icmp .ge 22, 3) := by decide +kernel
theorem dX6_inState_12 : decode cX6_inState 12 = .ok (.aload_n 0, 1) := by decide +kernel
theorem dX6_inState_13 : decode cX6_inState 13 = .ok (.getfield 21, 3) := by decide +kernel
theorem dX6_inState_16 : decode cX6_inState 16 = .ok (.iload_n 3, 1) := by decide +kernel
theorem dX6_inState_17 : decode cX6_inState 17 = .ok (.iaload, 1) := by decide +kernel
theorem dX6_inState_18 : decode cX6_inState 18 = .ok (.iload_n 1, 1) := by decide +kernel
theorem dX6_inState_19 : decode cX6_inState 19 = .ok (.if_icmp .ne 6, 3) := by decide +kernel
theorem dX6_inState_22 : decode cX6_inState 22 = .ok (.iinc 2 1, 3) := by decide +kernel
theorem dX6_inState_25 : decode cX6_inState 25 = .ok (.iinc 3 1, 3) := by decide +kernel
theorem dX6_inState_28 : decode cX6_inState 28 = .ok (.goto (-24), 3) := by decide +kernel
theorem dX6_inState_31 : decode cX6_inState 31 = .ok (.iload_n 2, 1) := by decide +kernel
theorem dX6_inState_32 : decode cX6_inState 32 = .ok (.ireturn, 1) := by decide +kernel
theorem dX7_init_0 : decode cX7_init 0 = .ok (.aload_n 0, 1) := by decide +kernel
theorem dX7_init_1 : decode cX7_init 1 = .ok (.invokespecial 3, 3) := by decide +kernel
theorem dX7_init_4 : decode cX7_init 4 = .ok (.aload_n 0, 1) := by decide +kernel
theorem dX7_init_5 : decode cX7_init 5 = .ok (.bipush 32, 2) := by decide +kernel
theorem dX7_init_7 : decode cX7_init 7 = .ok (.newarray .int, 2) := by decide +kernel
theorem dX7_init_9 : decode cX7_init 9 = .ok (.putfield 9, 3) := by decide +kernel
theorem dX7_init_12 : decode cX7_init 12 = .ok (.aload_n 0, 1) := by decide +kernel
theorem dX7_init_13 : decode cX7_init 13 = .ok (.bipush 32, 2) := by decide +kernel
theorem dX7_init_15 : decode cX7_init 15 = .ok (.newarray .int, 2) := by decide +kernel
theorem dX7_init_17 : decode cX7_init 17 = .ok (.putfield 15, 3) := by decide +kernel
theorem dX7_init_20 : decode cX7_init 20 = .ok (.aload_n 0, 1) := by decide +kernel
theorem dX7_init_21 : decode cX7_init 21 = .ok (.bipush 32, 2) := by decide +kernel
theorem dX7_init_23 : decode cX7_init 23 = .ok (.newarray .int, 2) := by decide +kernel
theorem dX7_init_25 : decode cX7_init 25 = .ok (.putfield 18, 3) := by decide +kernel
theorem dX7_init_28 : decode cX7_init 28 = .ok (.aload_n 0, 1) := by decide +kernel
theorem dX7_init_29 : decode cX7_init 29 = .ok (.bipush 60, 2) := by decide +kernel
theorem dX7_init_31 : decode cX7_init 31 = .ok (.newarray .int, 2) := by decide +kernel
theorem dX7_init_33 : decode cX7_init 33 = .ok (.putfield 21, 3) := by decide +kernel
theorem dX7_init_36 : decode cX7_init 36 = .ok (.aload_n 0, 1) := by decide +kernel
theorem dX7_init_37 : decode cX7_init 37 = .ok (.bipush 60, 2) := by decide +kernel
theorem dX7_init_39 : decode cX7_init 39 = .ok (.newarray .int, 2) := by decide +kernel
theorem dX7_init_41 : decode cX7_init 41 = .ok (.putfield 24, 3) := by decide +kernel
theorem dX7_init_44 : decode cX7_init 44 = .ok (.aload_n 0, 1) := by decide +kernel
theorem dX7_init_45 : decode cX7_init 45 = .ok (.bipush 60, 2) := by decide +kernel
theorem dX7_init_47 : decode cX7_init 47 = .ok (.newarray .int, 2) := by decide +kernel
theorem dX7_init_49 : decode cX7_init 49 = .ok (.putfield 27, 3) := by decide +kernel
theorem dX7_init_52 : decode cX7_init 52 = .ok (.aload_n 0, 1) := by decide +kernel
theorem dX7_init_53 : decode cX7_init 53 = .ok (.iconst 2, 1) := by decide +kernel
theorem dX7_init_54 : decode cX7_init 54 = .ok (.newarray .int, 2) := by decide +kernel
theorem dX7_init_56 : decode cX7_init 56 = .ok (.putfield 30, 3) := by decide +kernel
theorem dX7_init_59 : decode cX7_init 59 = .ok (.aload_n 0, 1) := by decide +kernel
theorem dX7_init_60 : decode cX7_init 60 = .ok (.iconst 2, 1) := by decide +kernel
theorem dX7_init_61 : decode cX7_init 61 = .ok (.newarray .int, 2) := by decide +kernel
theorem dX7_init_63 : decode cX7_init 63 = .ok (.putfield 33, 3) := by decide +kernel
theorem dX7_init_66 : decode cX7_init 66 = .ok (.aload_n 0, 1) := by decide +kernel
theorem dX7_init_67 : decode cX7_init 67 = .ok (.iconst 0, 1) := by decide +kernel
theorem dX7_init_68 : decode cX7_init 68 = .ok (.putfield 36, 3) := by decide +kernel
theorem dX7_init_71 : decode cX7_init 71 = .ok (.aload_n 0, 1) := by decide +kernel
theorem dX7_init_72 : decode cX7_init 72 = .ok (.iconst 0, 1) := by decide +kernel
theorem dX7_init_73 : decode cX7_init 73 = .ok (.putfield 40, 3) := by decide +kernel
theorem dX7_init_76 : decode cX7_init 76 = .ok (.aload_n 0, 1) := by decide +kernel
theorem dX7_init_77 : decode cX7_init 77 = .ok (.bipush (-9), 2) := by decide +kernel
theorem dX7_init_79 : decode cX7_init 79 = .ok (.putfield 43, 3) := by decide +kernel
theorem dX7_init_82 : decode cX7_init 82 = .ok (.return_, 1) := by decide +kernel
theorem dX7_tellSight_0 : decode cX7_tellSight 0 = .ok (.iconst 0, 1) := by decide +kernel
theorem dX7_tellSight_1 : decode cX7_tellSight 1 = .ok (.istore 4, 2) := by decide +kernel
theorem dX7_tellSight_3 : decode cX7_tellSight 3 = .ok (.iload 4, 2) := by decide +kernel
theorem dX7_tellSight_5 : decode cX7_tellSight 5 = .ok (.aload_n 0, 1) := by decide +kernel
theorem dX7_tellSight_6 : decode cX7_tellSight 6 = .ok (.getfield 36, 3) := by decide +kernel
theorem dX7_tellSight_9 : decode cX7_tellSight 9 = .ok (.if_icmp .ge 33, 3) := by decide +kernel
theorem dX7_tellSight_12 : decode cX7_tellSight 12 = .ok (.aload_n 0, 1) := by decide +kernel
theorem dX7_tellSight_13 : decode cX7_tellSight 13 = .ok (.getfield 9, 3) := by decide +kernel
theorem dX7_tellSight_16 : decode cX7_tellSight 16 = .ok (.iload 4, 2) := by decide +kernel
theorem dX7_tellSight_18 : decode cX7_tellSight 18 = .ok (.iaload, 1) := by decide +kernel
theorem dX7_tellSight_19 : decode cX7_tellSight 19 = .ok (.iload_n 1, 1) := by decide +kernel
theorem dX7_tellSight_20 : decode cX7_tellSight 20 = .ok (.if_icmp .ne 16, 3) := by decide +kernel
theorem dX7_tellSight_23 : decode cX7_tellSight 23 = .ok (.aload_n 0, 1) := by decide +kernel
theorem dX7_tellSight_24 : decode cX7_tellSight 24 = .ok (.getfield 15, 3) := by decide +kernel
theorem dX7_tellSight_27 : decode cX7_tellSight 27 = .ok (.iload 4, 2) := by decide +kernel
theorem dX7_tellSight_29 : decode cX7_tellSight 29 = .ok (.iaload, 1) := by decide +kernel
theorem dX7_tellSight_30 : decode cX7_tellSight 30 = .ok (.iload_n 2, 1) := by decide +kernel
theorem dX7_tellSight_31 : decode cX7_tellSight 31 = .ok (.if_icmp .ne 5, 3) := by decide +kernel
theorem dX7_tellSight_34 : decode cX7_tellSight 34 = .ok (.iconst 0, 1) := by decide +kernel
theorem dX7_tellSight_35 : decode cX7_tellSight 35 = .ok (.ireturn, 1) := by decide +kernel
theorem dX7_tellSight_36 : decode cX7_tellSight 36 = .ok (.iinc 4 1, 3) := by decide +kernel
theorem dX7_tellSight_39 : decode cX7_tellSight 39 = .ok (.goto (-36), 3) := by decide +kernel
theorem dX7_tellSight_42 : decode cX7_tellSight 42 = .ok (.aload_n 0, 1) := by decide +kernel
theorem dX7_tellSight_43 : decode cX7_tellSight 43 = .ok (.getfield 36, 3) := by decide +kernel
theorem dX7_tellSight_46 : decode cX7_tellSight 46 = .ok (.bipush 32, 2) := by decide +kernel
theorem dX7_tellSight_48 : decode cX7_tellSight 48 = .ok (.if_icmp .lt 5, 3) := by decide +kernel
theorem dX7_tellSight_51 : decode cX7_tellSight 51 = .ok (.iconst 0, 1) := by decide +kernel
theorem dX7_tellSight_52 : decode cX7_tellSight 52 = .ok (.ireturn, 1) := by decide +kernel
theorem dX7_tellSight_53 : decode cX7_tellSight 53 = .ok (.aload_n 0, 1) := by decide +kernel
theorem dX7_tellSight_54 : decode cX7_tellSight 54 = .ok (.getfield 9, 3) := by decide +kernel
theorem dX7_tellSight_57 : decode cX7_tellSight 57 = .ok (.aload_n 0, 1) := by decide +kernel
theorem dX7_tellSight_58 : decode cX7_tellSight 58 = .ok (.getfield 36, 3) := by decide +kernel
theorem dX7_tellSight_61 : decode cX7_tellSight 61 = .ok (.iload_n 1, 1) := by decide +kernel
theorem dX7_tellSight_62 : decode cX7_tellSight 62 = .ok (.iastore, 1) := by decide +kernel
theorem dX7_tellSight_63 : decode cX7_tellSight 63 = .ok (.aload_n 0, 1) := by decide +kernel
theorem dX7_tellSight_64 : decode cX7_tellSight 64 = .ok (.getfield 15, 3) := by decide +kernel
theorem dX7_tellSight_67 : decode cX7_tellSight 67 = .ok (.aload_n 0, 1) := by decide +kernel
theorem dX7_tellSight_68 : decode cX7_tellSight 68 = .ok (.getfield 36, 3) := by decide +kernel
theorem dX7_tellSight_71 : decode cX7_tellSight 71 = .ok (.iload_n 2, 1) := by decide +kernel
theorem dX7_tellSight_72 : decode cX7_tellSight 72 = .ok (.iastore, 1) := by decide +kernel
theorem dX7_tellSight_73 : decode cX7_tellSight 73 = .ok (.aload_n 0, 1) := by decide +kernel
theorem dX7_tellSight_74 : decode cX7_tellSight 74 = .ok (.getfield 18, 3) := by decide +kernel
theorem dX7_tellSight_77 : decode cX7_tellSight 77 = .ok (.aload_n 0, 1) := by decide +kernel
theorem dX7_tellSight_78 : decode cX7_tellSight 78 = .ok (.getfield 36, 3) := by decide +kernel
theorem dX7_tellSight_81 : decode cX7_tellSight 81 = .ok (.iload_n 3, 1) := by decide +kernel
theorem dX7_tellSight_82 : decode cX7_tellSight 82 = .ok (.iastore, 1) := by decide +kernel
theorem dX7_tellSight_83 : decode cX7_tellSight 83 = .ok (.aload_n 0, 1) := by decide +kernel
theorem dX7_tellSight_84 : decode cX7_tellSight 84 = .ok (.dup, 1) := by decide +kernel
theorem dX7_tellSight_85 : decode cX7_tellSight 85 = .ok (.getfield 36, 3) := by decide +kernel
theorem dX7_tellSight_88 : decode cX7_tellSight 88 = .ok (.iconst 1, 1) := by decide +kernel
theorem dX7_tellSight_89 : decode cX7_tellSight 89 = .ok (.iadd, 1) := by decide +kernel
theorem dX7_tellSight_90 : decode cX7_tellSight 90 = .ok (.putfield 36, 3) := by decide +kernel
theorem dX7_tellSight_93 : decode cX7_tellSight 93 = .ok (.iconst 1, 1) := by decide +kernel
theorem dX7_tellSight_94 : decode cX7_tellSight 94 = .ok (.ireturn, 1) := by decide +kernel
theorem dX7_talkedOn_0 : decode cX7_talkedOn 0 = .ok (.iconst 0, 1) := by decide +kernel
theorem dX7_talkedOn_1 : decode cX7_talkedOn 1 = .ok (.istore 4, 2) := by decide +kernel
theorem dX7_talkedOn_3 : decode cX7_talkedOn 3 = .ok (.iload 4, 2) := by decide +kernel
theorem dX7_talkedOn_5 : decode cX7_talkedOn 5 = .ok (.aload_n 0, 1) := by decide +kernel
theorem dX7_talkedOn_6 : decode cX7_talkedOn 6 = .ok (.getfield 40, 3) := by decide +kernel
theorem dX7_talkedOn_9 : decode cX7_talkedOn 9 = .ok (.if_icmp .ge 90, 3) := by decide +kernel
theorem dX7_talkedOn_12 : decode cX7_talkedOn 12 = .ok (.aload_n 0, 1) := by decide +kernel
theorem dX7_talkedOn_13 : decode cX7_talkedOn 13 = .ok (.getfield 21, 3) := by decide +kernel
theorem dX7_talkedOn_16 : decode cX7_talkedOn 16 = .ok (.iload 4, 2) := by decide +kernel
theorem dX7_talkedOn_18 : decode cX7_talkedOn 18 = .ok (.iaload, 1) := by decide +kernel
theorem dX7_talkedOn_19 : decode cX7_talkedOn 19 = .ok (.iload_n 1, 1) := by decide +kernel
theorem dX7_talkedOn_20 : decode cX7_talkedOn 20 = .ok (.if_icmp .ne 18, 3) := by decide +kernel
theorem dX7_talkedOn_23 : decode cX7_talkedOn 23 = .ok (.aload_n 0, 1) := by decide +kernel
theorem dX7_talkedOn_24 : decode cX7_talkedOn 24 = .ok (.getfield 24, 3) := by decide +kernel
theorem dX7_talkedOn_27 : decode cX7_talkedOn 27 = .ok (.iload 4, 2) := by decide +kernel
theorem dX7_talkedOn_29 : decode cX7_talkedOn 29 = .ok (.iaload, 1) := by decide +kernel
theorem dX7_talkedOn_30 : decode cX7_talkedOn 30 = .ok (.iload_n 2, 1) := by decide +kernel
theorem dX7_talkedOn_31 : decode cX7_talkedOn 31 = .ok (.if_icmp .ne 7, 3) := by decide +kernel
theorem dX7_talkedOn_34 : decode cX7_talkedOn 34 = .ok (.iconst 1, 1) := by decide +kernel
theorem dX7_talkedOn_35 : decode cX7_talkedOn 35 = .ok (.goto 4, 3) := by decide +kernel
theorem dX7_talkedOn_38 : decode cX7_talkedOn 38 = .ok (.iconst 0, 1) := by decide +kernel
theorem dX7_talkedOn_39 : decode cX7_talkedOn 39 = .ok (.istore 5, 2) := by decide +kernel
theorem dX7_talkedOn_41 : decode cX7_talkedOn 41 = .ok (.aload_n 0, 1) := by decide +kernel
theorem dX7_talkedOn_42 : decode cX7_talkedOn 42 = .ok (.getfield 21, 3) := by decide +kernel
theorem dX7_talkedOn_45 : decode cX7_talkedOn 45 = .ok (.iload 4, 2) := by decide +kernel
theorem dX7_talkedOn_47 : decode cX7_talkedOn 47 = .ok (.iaload, 1) := by decide +kernel
theorem dX7_talkedOn_48 : decode cX7_talkedOn 48 = .ok (.iload_n 2, 1) := by decide +kernel
theorem dX7_talkedOn_49 : decode cX7_talkedOn 49 = .ok (.if_icmp .ne 18, 3) := by decide +kernel
theorem dX7_talkedOn_52 : decode cX7_talkedOn 52 = .ok (.aload_n 0, 1) := by decide +kernel
theorem dX7_talkedOn_53 : decode cX7_talkedOn 53 = .ok (.getfield 24, 3) := by decide +kernel
theorem dX7_talkedOn_56 : decode cX7_talkedOn 56 = .ok (.iload 4, 2) := by decide +kernel
theorem dX7_talkedOn_58 : decode cX7_talkedOn 58 = .ok (.iaload, 1) := by decide +kernel
theorem dX7_talkedOn_59 : decode cX7_talkedOn 59 = .ok (.iload_n 1, 1) := by decide +kernel
theorem dX7_talkedOn_60 : decode cX7_talkedOn 60 = .ok (.if_icmp .ne 7, 3) := by decide +kernel
theorem dX7_talkedOn_63 : decode cX7_talkedOn 63 = .ok (.iconst 1, 1) := by decide +kernel
theorem dX7_talkedOn_64 : decode cX7_talkedOn 64 = .ok (.goto 4, 3) := by decide +kernel
theorem dX7_talkedOn_67 : decode cX7_talkedOn 67 = .ok (.iconst 0, 1) := by decide +kernel
theorem dX7_talkedOn_68 : decode cX7_talkedOn 68 = .ok (.istore 6, 2) := by decide +kernel
theorem dX7_talkedOn_70 : decode cX7_talkedOn 70 = .ok (.aload_n 0, 1) := by decide +kernel
theorem dX7_talkedOn_71 : decode cX7_talkedOn 71 = .ok (.getfield 27, 3) := by decide +kernel
theorem dX7_talkedOn_74 : decode cX7_talkedOn 74 = .ok (.iload 4, 2) := by decide +kernel
theorem dX7_talkedOn_76 : decode cX7_talkedOn 76 = .ok (.iaload, 1) := by decide +kernel
theorem dX7_talkedOn_77 : decode cX7_talkedOn 77 = .ok (.iload_n 3, 1) := by decide +kernel
theorem dX7_talkedOn_78 : decode cX7_talkedOn 78 = .ok (.if_icmp .ne 15, 3) := by decide +kernel
theorem dX7_talkedOn_81 : decode cX7_talkedOn 81 = .ok (.iload 5, 2) := by decide +kernel
theorem dX7_talkedOn_83 : decode cX7_talkedOn 83 = .ok (.ifCond .ne 8, 3) := by decide +kernel
theorem dX7_talkedOn_86 : decode cX7_talkedOn 86 = .ok (.iload 6, 2) := by decide +kernel
theorem dX7_talkedOn_88 : decode cX7_talkedOn 88 = .ok (.ifCond .eq 5, 3) := by decide +kernel
theorem dX7_talkedOn_91 : decode cX7_talkedOn 91 = .ok (.iconst 1, 1) := by decide +kernel
theorem dX7_talkedOn_92 : decode cX7_talkedOn 92 = .ok (.ireturn, 1) := by decide +kernel
theorem dX7_talkedOn_93 : decode cX7_talkedOn 93 = .ok (.iinc 4 1, 3) := by decide +kernel
theorem dX7_talkedOn_96 : decode cX7_talkedOn 96 = .ok (.goto (-93), 3) := by decide +kernel
theorem dX7_talkedOn_99 : decode cX7_talkedOn 99 = .ok (.iconst 0, 1) := by decide +kernel
theorem dX7_talkedOn_100 : decode cX7_talkedOn 100 = .ok (.ireturn, 1) := by decide +kernel
theorem dX7_tellTalk_0 : decode cX7_tellTalk 0 = .ok (.aload_n 0, 1) := by decide +kernel
theorem dX7_tellTalk_1 : decode cX7_tellTalk 1 = .ok (.getfield 21, 3) := by decide +kernel
theorem dX7_tellTalk_4 : decode cX7_tellTalk 4 = .ok (.aload_n 0, 1) := by decide +kernel
theorem dX7_tellTalk_5 : decode cX7_tellTalk 5 = .ok (.getfield 40, 3) := by decide +kernel
theorem dX7_tellTalk_8 : decode cX7_tellTalk 8 = .ok (.iload_n 1, 1) := by decide +kernel
theorem dX7_tellTalk_9 : decode cX7_tellTalk 9 = .ok (.iastore, 1) := by decide +kernel
theorem dX7_tellTalk_10 : decode cX7_tellTalk 10 = .ok (.aload_n 0, 1) := by decide +kernel
theorem dX7_tellTalk_11 : decode cX7_tellTalk 11 = .ok (.getfield 24, 3) := by decide +kernel
theorem dX7_tellTalk_14 : decode cX7_tellTalk 14 = .ok (.aload_n 0, 1) := by decide +kernel
theorem dX7_tellTalk_15 : decode cX7_tellTalk 15 = .ok (.getfield 40, 3) := by decide +kernel
theorem dX7_tellTalk_18 : decode cX7_tellTalk 18 = .ok (.iload_n 2, 1) := by decide +kernel
theorem dX7_tellTalk_19 : decode cX7_tellTalk 19 = .ok (.iastore, 1) := by decide +kernel
theorem dX7_tellTalk_20 : decode cX7_tellTalk 20 = .ok (.aload_n 0, 1) := by decide +kernel
theorem dX7_tellTalk_21 : decode cX7_tellTalk 21 = .ok (.getfield 27, 3) := by decide +kernel
theorem dX7_tellTalk_24 : decode cX7_tellTalk 24 = .ok (.aload_n 0, 1) := by decide +kernel
theorem dX7_tellTalk_25 : decode cX7_tellTalk 25 = .ok (.getfield 40, 3) := by decide +kernel
theorem dX7_tellTalk_28 : decode cX7_tellTalk 28 = .ok (.iload_n 3, 1) := by decide +kernel
theorem dX7_tellTalk_29 : decode cX7_tellTalk 29 = .ok (.iastore, 1) := by decide +kernel
theorem dX7_tellTalk_30 : decode cX7_tellTalk 30 = .ok (.aload_n 0, 1) := by decide +kernel
theorem dX7_tellTalk_31 : decode cX7_tellTalk 31 = .ok (.dup, 1) := by decide +kernel
theorem dX7_tellTalk_32 : decode cX7_tellTalk 32 = .ok (.getfield 40, 3) := by decide +kernel
theorem dX7_tellTalk_35 : decode cX7_tellTalk 35 = .ok (.iconst 1, 1) := by decide +kernel
theorem dX7_tellTalk_36 : decode cX7_tellTalk 36 = .ok (.iadd, 1) := by decide +kernel
theorem dX7_tellTalk_37 : decode cX7_tellTalk 37 = .ok (.putfield 40, 3) := by decide +kernel
theorem dX7_tellTalk_40 : decode cX7_tellTalk 40 = .ok (.return_, 1) := by decide +kernel
theorem dX7_retell_0 : decode cX7_retell 0 = .ok (.aload_n 0, 1) := by decide +kernel
theorem dX7_retell_1 : decode cX7_retell 1 = .ok (.getfield 30, 3) := by decide +kernel
theorem dX7_retell_4 : decode cX7_retell 4 = .ok (.iconst 0, 1) := by decide +kernel
theorem dX7_retell_5 : decode cX7_retell 5 = .ok (.iconst 0, 1) := by decide +kernel
theorem dX7_retell_6 : decode cX7_retell 6 = .ok (.iastore, 1) := by decide +kernel
theorem dX7_retell_7 : decode cX7_retell 7 = .ok (.aload_n 0, 1) := by decide +kernel
theorem dX7_retell_8 : decode cX7_retell 8 = .ok (.getfield 30, 3) := by decide +kernel
theorem dX7_retell_11 : decode cX7_retell 11 = .ok (.iconst 1, 1) := by decide +kernel
theorem dX7_retell_12 : decode cX7_retell 12 = .ok (.iconst 0, 1) := by decide +kernel
theorem dX7_retell_13 : decode cX7_retell 13 = .ok (.iastore, 1) := by decide +kernel
theorem dX7_retell_14 : decode cX7_retell 14 = .ok (.aload_n 0, 1) := by decide +kernel
theorem dX7_retell_15 : decode cX7_retell 15 = .ok (.bipush (-9), 2) := by decide +kernel
theorem dX7_retell_17 : decode cX7_retell 17 = .ok (.putfield 43, 3) := by decide +kernel
theorem dX7_retell_20 : decode cX7_retell 20 = .ok (.iconst 0, 1) := by decide +kernel
theorem dX7_retell_21 : decode cX7_retell 21 = .ok (.istore_n 2, 1) := by decide +kernel
theorem dX7_retell_22 : decode cX7_retell 22 = .ok (.iconst 0, 1) := by decide +kernel
theorem dX7_retell_23 : decode cX7_retell 23 = .ok (.istore_n 3, 1) := by decide +kernel
theorem dX7_retell_24 : decode cX7_retell 24 = .ok (.iconst 0, 1) := by decide +kernel
theorem dX7_retell_25 : decode cX7_retell 25 = .ok (.istore 4, 2) := by decide +kernel
theorem dX7_retell_27 : decode cX7_retell 27 = .ok (.iload 4, 2) := by decide +kernel
theorem dX7_retell_29 : decode cX7_retell 29 = .ok (.bipush 60, 2) := by decide +kernel
theorem dX7_retell_31 : decode cX7_retell 31 = .ok (.if_icmp .ge 36, 3) := by decide +kernel
theorem dX7_retell_34 : decode cX7_retell 34 = .ok (.iload_n 3, 1) := by decide +kernel
theorem dX7_retell_35 : decode cX7_retell 35 = .ok (.aload_n 0, 1) := by decide +kernel
theorem dX7_retell_36 : decode cX7_retell 36 = .ok (.getfield 40, 3) := by decide +kernel
theorem dX7_retell_39 : decode cX7_retell 39 = .ok (.if_icmp .ge 28, 3) := by decide +kernel
theorem dX7_retell_42 : decode cX7_retell 42 = .ok (.aload_n 0, 1) := by decide +kernel
theorem dX7_retell_43 : decode cX7_retell 43 = .ok (.iload_n 2, 1) := by decide +kernel
theorem dX7_retell_44 : decode cX7_retell 44 = .ok (.aload_n 0, 1) := by decide +kernel
theorem dX7_retell_45 : decode cX7_retell 45 = .ok (.getfield 27, 3) := by decide +kernel
theorem dX7_retell_48 : decode cX7_retell 48 = .ok (.iload_n 3, 1) := by decide +kernel
theorem dX7_retell_49 : decode cX7_retell 49 = .ok (.iaload, 1) := by decide +kernel
theorem dX7_retell_50 : decode cX7_retell 50 = .ok (.invokevirtual 46, 3) := by decide +kernel
theorem dX7_retell_53 : decode cX7_retell 53 = .ok (.istore_n 2, 1) := by decide +kernel
theorem dX7_retell_54 : decode cX7_retell 54 = .ok (.aload_n 0, 1) := by decide +kernel
theorem dX7_retell_55 : decode cX7_retell 55 = .ok (.iload_n 3, 1) := by decide +kernel
theorem dX7_retell_56 : decode cX7_retell 56 = .ok (.iload_n 1, 1) := by decide +kernel
theorem dX7_retell_57 : decode cX7_retell 57 = .ok (.invokevirtual 50, 3) := by decide +kernel
theorem dX7_retell_60 : decode cX7_retell 60 = .ok (.istore_n 3, 1) := by decide +kernel
theorem dX7_retell_61 : decode cX7_retell 61 = .ok (.iinc 4 1, 3) := by decide +kernel
theorem dX7_retell_64 : decode cX7_retell 64 = .ok (.goto (-37), 3) := by decide +kernel
theorem dX7_retell_67 : decode cX7_retell 67 = .ok (.aload_n 0, 1) := by decide +kernel
theorem dX7_retell_68 : decode cX7_retell 68 = .ok (.iload_n 2, 1) := by decide +kernel
theorem dX7_retell_69 : decode cX7_retell 69 = .ok (.sipush 4000, 3) := by decide +kernel
theorem dX7_retell_72 : decode cX7_retell 72 = .ok (.invokevirtual 46, 3) := by decide +kernel
theorem dX7_retell_75 : decode cX7_retell 75 = .ok (.pop, 1) := by decide +kernel
theorem dX7_retell_76 : decode cX7_retell 76 = .ok (.return_, 1) := by decide +kernel
theorem dX7_seeTill_0 : decode cX7_seeTill 0 = .ok (.iload_n 1, 1) := by decide +kernel
theorem dX7_seeTill_1 : decode cX7_seeTill 1 = .ok (.istore_n 3, 1) := by decide +kernel
theorem dX7_seeTill_2 : decode cX7_seeTill 2 = .ok (.iload_n 3, 1) := by decide +kernel
theorem dX7_seeTill_3 : decode cX7_seeTill 3 = .ok (.aload_n 0, 1) := by decide +kernel
theorem dX7_seeTill_4 : decode cX7_seeTill 4 = .ok (.getfield 36, 3) := by decide +kernel
theorem dX7_seeTill_7 : decode cX7_seeTill 7 = .ok (.if_icmp .ge 51, 3) := by decide +kernel
theorem dX7_seeTill_10 : decode cX7_seeTill 10 = .ok (.aload_n 0, 1) := by decide +kernel
theorem dX7_seeTill_11 : decode cX7_seeTill 11 = .ok (.getfield 18, 3) := by decide +kernel
theorem dX7_seeTill_14 : decode cX7_seeTill 14 = .ok (.iload_n 3, 1) := by decide +kernel
theorem dX7_seeTill_15 : decode cX7_seeTill 15 = .ok (.iaload, 1) := by decide +kernel
theorem dX7_seeTill_16 : decode cX7_seeTill 16 = .ok (.iload_n 2, 1) := by decide +kernel
theorem dX7_seeTill_17 : decode cX7_seeTill 17 = .ok (.if_icmp .gt 41, 3) := by decide +kernel
theorem dX7_seeTill_20 : decode cX7_seeTill 20 = .ok (.aload_n 0, 1) := by decide +kernel
theorem dX7_seeTill_21 : decode cX7_seeTill 21 = .ok (.getfield 30, 3) := by decide +kernel
theorem dX7_seeTill_24 : decode cX7_seeTill 24 = .ok (.aload_n 0, 1) := by decide +kernel
theorem dX7_seeTill_25 : decode cX7_seeTill 25 = .ok (.getfield 15, 3) := by decide +kernel
theorem dX7_seeTill_28 : decode cX7_seeTill 28 = .ok (.iload_n 3, 1) := by decide +kernel
theorem dX7_seeTill_29 : decode cX7_seeTill 29 = .ok (.iaload, 1) := by decide +kernel
theorem dX7_seeTill_30 : decode cX7_seeTill 30 = .ok (.dup2, 1) := by decide +kernel
theorem dX7_seeTill_31 : decode cX7_seeTill 31 = .ok (.iaload, 1) := by decide +kernel
theorem dX7_seeTill_32 : decode cX7_seeTill 32 = .ok (.iconst 1, 1) := by decide +kernel
theorem dX7_seeTill_33 : decode cX7_seeTill 33 = .ok (.aload_n 0, 1) := by decide +kernel
theorem dX7_seeTill_34 : decode cX7_seeTill 34 = .ok (.getfield 9, 3) := by decide +kernel
theorem dX7_seeTill_37 : decode cX7_seeTill 37 = .ok (.iload_n 3, 1) := by decide +kernel
theorem dX7_seeTill_38 : decode cX7_seeTill 38 = .ok (.iaload, 1) := by decide +kernel
theorem dX7_seeTill_39 : decode cX7_seeTill 39 = .ok (.ishl, 1) := by decide +kernel
theorem dX7_seeTill_40 : decode cX7_seeTill 40 = .ok (.ior, 1) := by decide +kernel
theorem dX7_seeTill_41 : decode cX7_seeTill 41 = .ok (.iastore, 1) := by decide +kernel
theorem dX7_seeTill_42 : decode cX7_seeTill 42 = .ok (.aload_n 0, 1) := by decide +kernel
theorem dX7_seeTill_43 : decode cX7_seeTill 43 = .ok (.aload_n 0, 1) := by decide +kernel
theorem dX7_seeTill_44 : decode cX7_seeTill 44 = .ok (.getfield 18, 3) := by decide +kernel
theorem dX7_seeTill_47 : decode cX7_seeTill 47 = .ok (.iload_n 3, 1) := by decide +kernel
theorem dX7_seeTill_48 : decode cX7_seeTill 48 = .ok (.iaload, 1) := by decide +kernel
theorem dX7_seeTill_49 : decode cX7_seeTill 49 = .ok (.invokevirtual 53, 3) := by decide +kernel
theorem dX7_seeTill_52 : decode cX7_seeTill 52 = .ok (.iinc 3 1, 3) := by decide +kernel
theorem dX7_seeTill_55 : decode cX7_seeTill 55 = .ok (.goto (-53), 3) := by decide +kernel
theorem dX7_seeTill_58 : decode cX7_seeTill 58 = .ok (.iload_n 3, 1) := by decide +kernel
theorem dX7_seeTill_59 : decode cX7_seeTill 59 = .ok (.ireturn, 1) := by decide +kernel
theorem dX7_talkAllDay_0 : decode cX7_talkAllDay 0 = .ok (.aload_n 0, 1) := by decide +kernel
theorem dX7_talkAllDay_1 : decode cX7_talkAllDay 1 = .ok (.getfield 27, 3) := by decide +kernel
theorem dX7_talkAllDay_4 : decode cX7_talkAllDay 4 = .ok (.iload_n 1, 1) := by decide +kernel
theorem dX7_talkAllDay_5 : decode cX7_talkAllDay 5 = .ok (.iaload, 1) := by decide +kernel
theorem dX7_talkAllDay_6 : decode cX7_talkAllDay 6 = .ok (.istore_n 3, 1) := by decide +kernel
theorem dX7_talkAllDay_7 : decode cX7_talkAllDay 7 = .ok (.aload_n 0, 1) := by decide +kernel
theorem dX7_talkAllDay_8 : decode cX7_talkAllDay 8 = .ok (.getfield 33, 3) := by decide +kernel
theorem dX7_talkAllDay_11 : decode cX7_talkAllDay 11 = .ok (.iconst 0, 1) := by decide +kernel
theorem dX7_talkAllDay_12 : decode cX7_talkAllDay 12 = .ok (.aload_n 0, 1) := by decide +kernel
theorem dX7_talkAllDay_13 : decode cX7_talkAllDay 13 = .ok (.getfield 30, 3) := by decide +kernel
theorem dX7_talkAllDay_16 : decode cX7_talkAllDay 16 = .ok (.iconst 0, 1) := by decide +kernel
theorem dX7_talkAllDay_17 : decode cX7_talkAllDay 17 = .ok (.iaload, 1) := by decide +kernel
theorem dX7_talkAllDay_18 : decode cX7_talkAllDay 18 = .ok (.iastore, 1) := by decide +kernel
theorem dX7_talkAllDay_19 : decode cX7_talkAllDay 19 = .ok (.aload_n 0, 1) := by decide +kernel
theorem dX7_talkAllDay_20 : decode cX7_talkAllDay 20 = .ok (.getfield 33, 3) := by decide +kernel
theorem dX7_talkAllDay_23 : decode cX7_talkAllDay 23 = .ok (.iconst 1, 1) := by decide +kernel
theorem dX7_talkAllDay_24 : decode cX7_talkAllDay 24 = .ok (.aload_n 0, 1) := by decide +kernel
theorem dX7_talkAllDay_25 : decode cX7_talkAllDay 25 = .ok (.getfield 30, 3) := by decide +kernel
theorem dX7_talkAllDay_28 : decode cX7_talkAllDay 28 = .ok (.iconst 1, 1) := by decide +kernel
theorem dX7_talkAllDay_29 : decode cX7_talkAllDay 29 = .ok (.iaload, 1) := by decide +kernel
theorem dX7_talkAllDay_30 : decode cX7_talkAllDay 30 = .ok (.iastore, 1) := by decide +kernel
theorem dX7_talkAllDay_31 : decode cX7_talkAllDay 31 = .ok (.iload_n 1, 1) := by decide +kernel
theorem dX7_talkAllDay_32 : decode cX7_talkAllDay 32 = .ok (.istore 4, 2) := by decide +kernel
theorem dX7_talkAllDay_34 : decode cX7_talkAllDay 34 = .ok (.iload 4, 2) := by decide +kernel
theorem dX7_talkAllDay_36 : decode cX7_talkAllDay 36 = .ok (.aload_n 0, 1) := by decide +kernel
theorem dX7_talkAllDay_37 : decode cX7_talkAllDay 37 = .ok (.getfield 40, 3) := by decide +kernel
theorem dX7_talkAllDay_40 : decode cX7_talkAllDay 40 = .ok (.if_icmp .ge 44, 3) := by decide +kernel
theorem dX7_talkAllDay_43 : decode cX7_talkAllDay 43 = .ok (.aload_n 0, 1) := by decide +kernel
theorem dX7_talkAllDay_44 : decode cX7_talkAllDay 44 = .ok (.getfield 27, 3) := by decide +kernel
theorem dX7_talkAllDay_47 : decode cX7_talkAllDay 47 = .ok (.iload 4, 2) := by decide +kernel
theorem dX7_talkAllDay_49 : decode cX7_talkAllDay 49 = .ok (.iaload, 1) := by decide +kernel
theorem dX7_talkAllDay_50 : decode cX7_talkAllDay 50 = .ok (.iload_n 3, 1) := by decide +kernel
theorem dX7_talkAllDay_51 : decode cX7_talkAllDay 51 = .ok (.if_icmp .ne 33, 3) := by decide +kernel
theorem dX7_talkAllDay_54 : decode cX7_talkAllDay 54 = .ok (.iload 4, 2) := by decide +kernel
theorem dX7_talkAllDay_56 : decode cX7_talkAllDay 56 = .ok (.iload_n 2, 1) := by decide +kernel
theorem dX7_talkAllDay_57 : decode cX7_talkAllDay 57 = .ok (.if_icmp .eq 21, 3) := by decide +kernel
theorem dX7_talkAllDay_60 : decode cX7_talkAllDay 60 = .ok (.aload_n 0, 1) := by decide +kernel
theorem dX7_talkAllDay_61 : decode cX7_talkAllDay 61 = .ok (.aload_n 0, 1) := by decide +kernel
theorem dX7_talkAllDay_62 : decode cX7_talkAllDay 62 = .ok (.getfield 21, 3) := by decide +kernel
theorem dX7_talkAllDay_65 : decode cX7_talkAllDay 65 = .ok (.iload 4, 2) := by decide +kernel
theorem dX7_talkAllDay_67 : decode cX7_talkAllDay 67 = .ok (.iaload, 1) := by decide +kernel
theorem dX7_talkAllDay_68 : decode cX7_talkAllDay 68 = .ok (.aload_n 0, 1) := by decide +kernel
theorem dX7_talkAllDay_69 : decode cX7_talkAllDay 69 = .ok (.getfield 24, 3) := by decide +kernel
theorem dX7_talkAllDay_72 : decode cX7_talkAllDay 72 = .ok (.iload 4, 2) := by decide +kernel
theorem dX7_talkAllDay_74 : decode cX7_talkAllDay 74 = .ok (.iaload, 1) := by decide +kernel
theorem dX7_talkAllDay_75 : decode cX7_talkAllDay 75 = .ok (.invokevirtual 57, 3) := by decide +kernel
theorem dX7_talkAllDay_78 : decode cX7_talkAllDay 78 = .ok (.iinc 4 1, 3) := by decide +kernel
theorem dX7_talkAllDay_81 : decode cX7_talkAllDay 81 = .ok (.goto (-47), 3) := by decide +kernel
theorem dX7_talkAllDay_84 : decode cX7_talkAllDay 84 = .ok (.aload_n 0, 1) := by decide +kernel
theorem dX7_talkAllDay_85 : decode cX7_talkAllDay 85 = .ok (.iload_n 3, 1) := by decide +kernel
theorem dX7_talkAllDay_86 : decode cX7_talkAllDay 86 = .ok (.invokevirtual 53, 3) := by decide +kernel
theorem dX7_talkAllDay_89 : decode cX7_talkAllDay 89 = .ok (.iload 4, 2) := by decide +kernel
theorem dX7_talkAllDay_91 : decode cX7_talkAllDay 91 = .ok (.ireturn, 1) := by decide +kernel
theorem dX7_exchange_0 : decode cX7_exchange 0 = .ok (.iconst 1, 1) := by decide +kernel
theorem dX7_exchange_1 : decode cX7_exchange 1 = .ok (.iload_n 1, 1) := by decide +kernel
theorem dX7_exchange_2 : decode cX7_exchange 2 = .ok (.ishl, 1) := by decide +kernel
theorem dX7_exchange_3 : decode cX7_exchange 3 = .ok (.iconst 1, 1) := by decide +kernel
theorem dX7_exchange_4 : decode cX7_exchange 4 = .ok (.iload_n 2, 1) := by decide +kernel
theorem dX7_exchange_5 : decode cX7_exchange 5 = .ok (.ishl, 1) := by decide +kernel
theorem dX7_exchange_6 : decode cX7_exchange 6 = .ok (.ior, 1) := by decide +kernel
theorem dX7_exchange_7 : decode cX7_exchange 7 = .ok (.istore_n 3, 1) := by decide +kernel
theorem dX7_exchange_8 : decode cX7_exchange 8 = .ok (.iconst 0, 1) := by decide +kernel
theorem dX7_exchange_9 : decode cX7_exchange 9 = .ok (.istore 4, 2) := by decide +kernel
theorem dX7_exchange_11 : decode cX7_exchange 11 = .ok (.iload 4, 2) := by decide +kernel
theorem dX7_exchange_13 : decode cX7_exchange 13 = .ok (.iconst 2, 1) := by decide +kernel
theorem dX7_exchange_14 : decode cX7_exchange 14 = .ok (.if_icmp .ge 32, 3) := by decide +kernel
theorem dX7_exchange_17 : decode cX7_exchange 17 = .ok (.aload_n 0, 1) := by decide +kernel
theorem dX7_exchange_18 : decode cX7_exchange 18 = .ok (.getfield 33, 3) := by decide +kernel
theorem dX7_exchange_21 : decode cX7_exchange 21 = .ok (.iload 4, 2) := by decide +kernel
theorem dX7_exchange_23 : decode cX7_exchange 23 = .ok (.iaload, 1) := by decide +kernel
theorem dX7_exchange_24 : decode cX7_exchange 24 = .ok (.iload_n 3, 1) := by decide +kernel
theorem dX7_exchange_25 : decode cX7_exchange 25 = .ok (.iand, 1) := by decide +kernel
theorem dX7_exchange_26 : decode cX7_exchange 26 = .ok (.ifCond .eq 14, 3) := by decide +kernel
theorem dX7_exchange_29 : decode cX7_exchange 29 = .ok (.aload_n 0, 1) := by decide +kernel
theorem dX7_exchange_30 : decode cX7_exchange 30 = .ok (.getfield 30, 3) := by decide +kernel
theorem dX7_exchange_33 : decode cX7_exchange 33 = .ok (.iload 4, 2) := by decide +kernel
theorem dX7_exchange_35 : decode cX7_exchange 35 = .ok (.dup2, 1) := by decide +kernel
theorem dX7_exchange_36 : decode cX7_exchange 36 = .ok (.iaload, 1) := by decide +kernel
theorem dX7_exchange_37 : decode cX7_exchange 37 = .ok (.iload_n 3, 1) := by decide +kernel
theorem dX7_exchange_38 : decode cX7_exchange 38 = .ok (.ior, 1) := by decide +kernel
theorem dX7_exchange_39 : decode cX7_exchange 39 = .ok (.iastore, 1) := by decide +kernel
theorem dX7_exchange_40 : decode cX7_exchange 40 = .ok (.iinc 4 1, 3) := by decide +kernel
theorem dX7_exchange_43 : decode cX7_exchange 43 = .ok (.goto (-32), 3) := by decide +kernel
theorem dX7_exchange_46 : decode cX7_exchange 46 = .ok (.return_, 1) := by decide +kernel
theorem dX7_noteJoined_0 : decode cX7_noteJoined 0 = .ok (.aload_n 0, 1) := by decide +kernel
theorem dX7_noteJoined_1 : decode cX7_noteJoined 1 = .ok (.getfield 43, 3) := by decide +kernel
theorem dX7_noteJoined_4 : decode cX7_noteJoined 4 = .ok (.bipush (-9), 2) := by decide +kernel
theorem dX7_noteJoined_6 : decode cX7_noteJoined 6 = .ok (.if_icmp .ne 24, 3) := by decide +kernel
theorem dX7_noteJoined_9 : decode cX7_noteJoined 9 = .ok (.aload_n 0, 1) := by decide +kernel
theorem dX7_noteJoined_10 : decode cX7_noteJoined 10 = .ok (.getfield 30, 3) := by decide +kernel
theorem dX7_noteJoined_13 : decode cX7_noteJoined 13 = .ok (.iconst 0, 1) := by decide +kernel
theorem dX7_noteJoined_14 : decode cX7_noteJoined 14 = .ok (.iaload, 1) := by decide +kernel
theorem dX7_noteJoined_15 : decode cX7_noteJoined 15 = .ok (.aload_n 0, 1) := by decide +kernel
theorem dX7_noteJoined_16 : decode cX7_noteJoined 16 = .ok (.getfield 30, 3) := by decide +kernel
theorem dX7_noteJoined_19 : decode cX7_noteJoined 19 = .ok (.iconst 1, 1) := by decide +kernel
theorem dX7_noteJoined_20 : decode cX7_noteJoined 20 = .ok (.iaload, 1) := by decide +kernel
theorem dX7_noteJoined_21 : decode cX7_noteJoined 21 = .ok (.iand, 1) := by decide +kernel
theorem dX7_noteJoined_22 : decode cX7_noteJoined 22 = .ok (.ifCond .eq 8, 3) := by decide +kernel
theorem dX7_noteJoined_25 : decode cX7_noteJoined 25 = .ok (.aload_n 0, 1) := by decide +kernel
theorem dX7_noteJoined_26 : decode cX7_noteJoined 26 = .ok (.iload_n 1, 1) := by decide +kernel
theorem dX7_noteJoined_27 : decode cX7_noteJoined 27 = .ok (.putfield 43, 3) := by decide +kernel
theorem dX7_noteJoined_30 : decode cX7_noteJoined 30 = .ok (.return_, 1) := by decide +kernel
theorem dX7_knownBy_0 : decode cX7_knownBy 0 = .ok (.aload_n 0, 1) := by decide +kernel
theorem dX7_knownBy_1 : decode cX7_knownBy 1 = .ok (.getfield 30, 3) := by decide +kernel
theorem dX7_knownBy_4 : decode cX7_knownBy 4 = .ok (.iconst 0, 1) := by decide +kernel
theorem dX7_knownBy_5 : decode cX7_knownBy 5 = .ok (.iaload, 1) := by decide +kernel
theorem dX7_knownBy_6 : decode cX7_knownBy 6 = .ok (.iload_n 1, 1) := by decide +kernel
theorem dX7_knownBy_7 : decode cX7_knownBy 7 = .ok (.ishr, 1) := by decide +kernel
theorem dX7_knownBy_8 : decode cX7_knownBy 8 = .ok (.iconst 1, 1) := by decide +kernel
theorem dX7_knownBy_9 : decode cX7_knownBy 9 = .ok (.iand, 1) := by decide +kernel
theorem dX7_knownBy_10 : decode cX7_knownBy 10 = .ok (.iconst 2, 1) := by decide +kernel
theorem dX7_knownBy_11 : decode cX7_knownBy 11 = .ok (.aload_n 0, 1) := by decide +kernel
theorem dX7_knownBy_12 : decode cX7_knownBy 12 = .ok (.getfield 30, 3) := by decide +kernel
theorem dX7_knownBy_15 : decode cX7_knownBy 15 = .ok (.iconst 1, 1) := by decide +kernel
theorem dX7_knownBy_16 : decode cX7_knownBy 16 = .ok (.iaload, 1) := by decide +kernel
theorem dX7_knownBy_17 : decode cX7_knownBy 17 = .ok (.iload_n 1, 1) := by decide +kernel
theorem dX7_knownBy_18 : decode cX7_knownBy 18 = .ok (.ishr, 1) := by decide +kernel
theorem dX7_knownBy_19 : decode cX7_knownBy 19 = .ok (.iconst 1, 1) := by decide +kernel
theorem dX7_knownBy_20 : decode cX7_knownBy 20 = .ok (.iand, 1) := by decide +kernel
theorem dX7_knownBy_21 : decode cX7_knownBy 21 = .ok (.imul, 1) := by decide +kernel
theorem dX7_knownBy_22 : decode cX7_knownBy 22 = .ok (.iadd, 1) := by decide +kernel
theorem dX7_knownBy_23 : decode cX7_knownBy 23 = .ok (.ireturn, 1) := by decide +kernel
theorem dX7_firstLeak_0 : decode cX7_firstLeak 0 = .ok (.aload_n 0, 1) := by decide +kernel
theorem dX7_firstLeak_1 : decode cX7_firstLeak 1 = .ok (.bipush (-9), 2) := by decide +kernel
theorem dX7_firstLeak_3 : decode cX7_firstLeak 3 = .ok (.invokevirtual 61, 3) := by decide +kernel
theorem dX7_firstLeak_6 : decode cX7_firstLeak 6 = .ok (.aload_n 0, 1) := by decide +kernel
theorem dX7_firstLeak_7 : decode cX7_firstLeak 7 = .ok (.getfield 43, 3) := by decide +kernel
theorem dX7_firstLeak_10 : decode cX7_firstLeak 10 = .ok (.bipush (-9), 2) := by decide +kernel
theorem dX7_firstLeak_12 : decode cX7_firstLeak 12 = .ok (.if_icmp .ne 6, 3) := by decide +kernel
theorem dX7_firstLeak_15 : decode cX7_firstLeak 15 = .ok (.bipush (-9), 2) := by decide +kernel
theorem dX7_firstLeak_17 : decode cX7_firstLeak 17 = .ok (.ireturn, 1) := by decide +kernel
theorem dX7_firstLeak_18 : decode cX7_firstLeak 18 = .ok (.iconst 0, 1) := by decide +kernel
theorem dX7_firstLeak_19 : decode cX7_firstLeak 19 = .ok (.istore_n 1, 1) := by decide +kernel
theorem dX7_firstLeak_20 : decode cX7_firstLeak 20 = .ok (.iload_n 1, 1) := by decide +kernel
theorem dX7_firstLeak_21 : decode cX7_firstLeak 21 = .ok (.aload_n 0, 1) := by decide +kernel
theorem dX7_firstLeak_22 : decode cX7_firstLeak 22 = .ok (.getfield 40, 3) := by decide +kernel
theorem dX7_firstLeak_25 : decode cX7_firstLeak 25 = .ok (.if_icmp .ge 25, 3) := by decide +kernel
theorem dX7_firstLeak_28 : decode cX7_firstLeak 28 = .ok (.aload_n 0, 1) := by decide +kernel
theorem dX7_firstLeak_29 : decode cX7_firstLeak 29 = .ok (.iload_n 1, 1) := by decide +kernel
theorem dX7_firstLeak_30 : decode cX7_firstLeak 30 = .ok (.invokevirtual 61, 3) := by decide +kernel
theorem dX7_firstLeak_33 : decode cX7_firstLeak 33 = .ok (.aload_n 0, 1) := by decide +kernel
theorem dX7_firstLeak_34 : decode cX7_firstLeak 34 = .ok (.getfield 43, 3) := by decide +kernel
theorem dX7_firstLeak_37 : decode cX7_firstLeak 37 = .ok (.bipush (-9), 2) := by decide +kernel
theorem dX7_firstLeak_39 : decode cX7_firstLeak 39 = .ok (.if_icmp .ne 5, 3) := by decide +kernel
theorem dX7_firstLeak_42 : decode cX7_firstLeak 42 = .ok (.iload_n 1, 1) := by decide +kernel
theorem dX7_firstLeak_43 : decode cX7_firstLeak 43 = .ok (.ireturn, 1) := by decide +kernel
theorem dX7_firstLeak_44 : decode cX7_firstLeak 44 = .ok (.iinc 1 1, 3) := by decide +kernel
theorem dX7_firstLeak_47 : decode cX7_firstLeak 47 = .ok (.goto (-27), 3) := by decide +kernel
theorem dX7_firstLeak_50 : decode cX7_firstLeak 50 = .ok (.bipush (-9), 2) := by decide +kernel
theorem dX7_firstLeak_52 : decode cX7_firstLeak 52 = .ok (.ireturn, 1) := by decide +kernel
theorem dX8_init_0 : decode cX8_init 0 = .ok (.aload_n 0, 1) := by decide +kernel
theorem dX8_init_1 : decode cX8_init 1 = .ok (.invokespecial 3, 3) := by decide +kernel
theorem dX8_init_4 : decode cX8_init 4 = .ok (.aload_n 0, 1) := by decide +kernel
theorem dX8_init_5 : decode cX8_init 5 = .ok (.bipush 8, 2) := by decide +kernel
theorem dX8_init_7 : decode cX8_init 7 = .ok (.newarray .int, 2) := by decide +kernel
theorem dX8_init_9 : decode cX8_init 9 = .ok (.putfield 9, 3) := by decide +kernel
theorem dX8_init_12 : decode cX8_init 12 = .ok (.aload_n 0, 1) := by decide +kernel
theorem dX8_init_13 : decode cX8_init 13 = .ok (.bipush 8, 2) := by decide +kernel
theorem dX8_init_15 : decode cX8_init 15 = .ok (.newarray .int, 2) := by decide +kernel
theorem dX8_init_17 : decode cX8_init 17 = .ok (.putfield 15, 3) := by decide +kernel
theorem dX8_init_20 : decode cX8_init 20 = .ok (.aload_n 0, 1) := by decide +kernel
theorem dX8_init_21 : decode cX8_init 21 = .ok (.bipush 8, 2) := by decide +kernel
theorem dX8_init_23 : decode cX8_init 23 = .ok (.newarray .int, 2) := by decide +kernel
theorem dX8_init_25 : decode cX8_init 25 = .ok (.putfield 18, 3) := by decide +kernel
theorem dX8_init_28 : decode cX8_init 28 = .ok (.aload_n 0, 1) := by decide +kernel
theorem dX8_init_29 : decode cX8_init 29 = .ok (.bipush 8, 2) := by decide +kernel
theorem dX8_init_31 : decode cX8_init 31 = .ok (.newarray .int, 2) := by decide +kernel
theorem dX8_init_33 : decode cX8_init 33 = .ok (.putfield 21, 3) := by decide +kernel
theorem dX8_init_36 : decode cX8_init 36 = .ok (.aload_n 0, 1) := by decide +kernel
theorem dX8_init_37 : decode cX8_init 37 = .ok (.bipush 8, 2) := by decide +kernel
theorem dX8_init_39 : decode cX8_init 39 = .ok (.newarray .int, 2) := by decide +kernel
theorem dX8_init_41 : decode cX8_init 41 = .ok (.putfield 24, 3) := by decide +kernel
theorem dX8_init_44 : decode cX8_init 44 = .ok (.aload_n 0, 1) := by decide +kernel
theorem dX8_init_45 : decode cX8_init 45 = .ok (.bipush 8, 2) := by decide +kernel
theorem dX8_init_47 : decode cX8_init 47 = .ok (.newarray .int, 2) := by decide +kernel
theorem dX8_init_49 : decode cX8_init 49 = .ok (.putfield 27, 3) := by decide +kernel
theorem dX8_init_52 : decode cX8_init 52 = .ok (.aload_n 0, 1) := by decide +kernel
theorem dX8_init_53 : decode cX8_init 53 = .ok (.bipush 12, 2) := by decide +kernel
theorem dX8_init_55 : decode cX8_init 55 = .ok (.newarray .int, 2) := by decide +kernel
theorem dX8_init_57 : decode cX8_init 57 = .ok (.putfield 30, 3) := by decide +kernel
theorem dX8_init_60 : decode cX8_init 60 = .ok (.aload_n 0, 1) := by decide +kernel
theorem dX8_init_61 : decode cX8_init 61 = .ok (.bipush 12, 2) := by decide +kernel
theorem dX8_init_63 : decode cX8_init 63 = .ok (.newarray .int, 2) := by decide +kernel
theorem dX8_init_65 : decode cX8_init 65 = .ok (.putfield 33, 3) := by decide +kernel
theorem dX8_init_68 : decode cX8_init 68 = .ok (.aload_n 0, 1) := by decide +kernel
theorem dX8_init_69 : decode cX8_init 69 = .ok (.iconst 0, 1) := by decide +kernel
theorem dX8_init_70 : decode cX8_init 70 = .ok (.putfield 36, 3) := by decide +kernel
theorem dX8_init_73 : decode cX8_init 73 = .ok (.return_, 1) := by decide +kernel
theorem dX8_isTold_0 : decode cX8_isTold 0 = .ok (.iconst 0, 1) := by decide +kernel
theorem dX8_isTold_1 : decode cX8_isTold 1 = .ok (.istore_n 2, 1) := by decide +kernel
theorem dX8_isTold_2 : decode cX8_isTold 2 = .ok (.iload_n 2, 1) := by decide +kernel
theorem dX8_isTold_3 : decode cX8_isTold 3 = .ok (.aload_n 0, 1) := by decide +kernel
theorem dX8_isTold_4 : decode cX8_isTold 4 = .ok (.getfield 36, 3) := by decide +kernel
theorem dX8_isTold_7 : decode cX8_isTold 7 = .ok (.if_icmp .ge 21, 3) := by decide +kernel
theorem dX8_isTold_10 : decode cX8_isTold 10 = .ok (.aload_n 0, 1) := by decide +kernel
theorem dX8_isTold_11 : decode cX8_isTold 11 = .ok (.getfield 9, 3) := by decide +kernel
theorem dX8_isTold_14 : decode cX8_isTold 14 = .ok (.iload_n 2, 1) := by decide +kernel
theorem dX8_isTold_15 : decode cX8_isTold 15 = .ok (.iaload, 1) := by decide +kernel
theorem dX8_isTold_16 : decode cX8_isTold 16 = .ok (.iload_n 1, 1) := by decide +kernel
theorem dX8_isTold_17 : decode cX8_isTold 17 = .ok (.if_icmp .ne 5, 3) := by decide +kernel
theorem dX8_isTold_20 : decode cX8_isTold 20 = .ok (.iconst 1, 1) := by decide +kernel
theorem dX8_isTold_21 : decode cX8_isTold 21 = .ok (.ireturn, 1) := by decide +kernel
theorem dX8_isTold_22 : decode cX8_isTold 22 = .ok (.iinc 2 1, 3) := by decide +kernel
theorem dX8_isTold_25 : decode cX8_isTold 25 = .ok (.goto (-23), 3) := by decide +kernel
theorem dX8_isTold_28 : decode cX8_isTold 28 = .ok (.iconst 0, 1) := by decide +kernel
theorem dX8_isTold_29 : decode cX8_isTold 29 = .ok (.ireturn, 1) := by decide +kernel
theorem dX8_tell_0 : decode cX8_tell 0 = .ok (.aload_n 0, 1) := by decide +kernel
theorem dX8_tell_1 : decode cX8_tell 1 = .ok (.getfield 9, 3) := by decide +kernel
theorem dX8_tell_4 : decode cX8_tell 4 = .ok (.aload_n 0, 1) := by decide +kernel
theorem dX8_tell_5 : decode cX8_tell 5 = .ok (.getfield 36, 3) := by decide +kernel
theorem dX8_tell_8 : decode cX8_tell 8 = .ok (.iload_n 1, 1) := by decide +kernel
theorem dX8_tell_9 : decode cX8_tell 9 = .ok (.iastore, 1) := by decide +kernel
theorem dX8_tell_10 : decode cX8_tell 10 = .ok (.aload_n 0, 1) := by decide +kernel
theorem dX8_tell_11 : decode cX8_tell 11 = .ok (.getfield 15, 3) := by decide +kernel
theorem dX8_tell_14 : decode cX8_tell 14 = .ok (.aload_n 0, 1) := by decide +kernel
theorem dX8_tell_15 : decode cX8_tell 15 = .ok (.getfield 36, 3) := by decide +kernel
theorem dX8_tell_18 : decode cX8_tell 18 = .ok (.iload_n 2, 1) := by decide +kernel
theorem dX8_tell_19 : decode cX8_tell 19 = .ok (.iastore, 1) := by decide +kernel
theorem dX8_tell_20 : decode cX8_tell 20 = .ok (.aload_n 0, 1) := by decide +kernel
theorem dX8_tell_21 : decode cX8_tell 21 = .ok (.getfield 36, 3) := by decide +kernel
theorem dX8_tell_24 : decode cX8_tell 24 = .ok (.istore_n 3, 1) := by decide +kernel
theorem dX8_tell_25 : decode cX8_tell 25 = .ok (.iload_n 3, 1) := by decide +kernel
theorem dX8_tell_26 : decode cX8_tell 26 = .ok (.ifCond .le 40, 3) := by decide +kernel
theorem dX8_tell_29 : decode cX8_tell 29 = .ok (.aload_n 0, 1) := by decide +kernel
theorem dX8_tell_30 : decode cX8_tell 30 = .ok (.getfield 15, 3) := by decide +kernel
theorem dX8_tell_33 : decode cX8_tell 33 = .ok (.aload_n 0, 1) := by decide +kernel
theorem dX8_tell_34 : decode cX8_tell 34 = .ok (.getfield 24, 3) := by decide +kernel
theorem dX8_tell_37 : decode cX8_tell 37 = .ok (.iload_n 3, 1) := by decide +kernel
theorem dX8_tell_38 : decode cX8_tell 38 = .ok (.iconst 1, 1) := by decide +kernel
theorem dX8_tell_39 : decode cX8_tell 39 = .ok (.isub, 1) := by decide +kernel
theorem dX8_tell_40 : decode cX8_tell 40 = .ok (.iaload, 1) := by decide +kernel
theorem dX8_tell_41 : decode cX8_tell 41 = .ok (.iaload, 1) := by decide +kernel
theorem dX8_tell_42 : decode cX8_tell 42 = .ok (.iload_n 2, 1) := by decide +kernel
theorem dX8_tell_43 : decode cX8_tell 43 = .ok (.if_icmp .ge 23, 3) := by decide +kernel
theorem dX8_tell_46 : decode cX8_tell 46 = .ok (.aload_n 0, 1) := by decide +kernel
theorem dX8_tell_47 : decode cX8_tell 47 = .ok (.getfield 24, 3) := by decide +kernel
theorem dX8_tell_50 : decode cX8_tell 50 = .ok (.iload_n 3, 1) := by decide +kernel
theorem dX8_tell_51 : decode cX8_tell 51 = .ok (.aload_n 0, 1) := by decide +kernel
theorem dX8_tell_52 : decode cX8_tell 52 = .ok (.getfield 24, 3) := by decide +kernel
theorem dX8_tell_55 : decode cX8_tell 55 = .ok (.iload_n 3, 1) := by decide +kernel
theorem dX8_tell_56 : decode cX8_tell 56 = .ok (.iconst 1, 1) := by decide +kernel
theorem dX8_tell_57 : decode cX8_tell 57 = .ok (.isub, 1) := by decide +kernel
theorem dX8_tell_58 : decode cX8_tell 58 = .ok (.iaload, 1) := by decide +kernel
theorem dX8_tell_59 : decode cX8_tell 59 = .ok (.iastore, 1) := by decide +kernel
theorem dX8_tell_60 : decode cX8_tell 60 = .ok (.iinc 3 (-1), 3) := by decide +kernel
theorem dX8_tell_63 : decode cX8_tell 63 = .ok (.goto (-38), 3) := by decide +kernel
theorem dX8_tell_66 : decode cX8_tell 66 = .ok (.aload_n 0, 1) := by decide +kernel
theorem dX8_tell_67 : decode cX8_tell 67 = .ok (.getfield 24, 3) := by decide +kernel
theorem dX8_tell_70 : decode cX8_tell 70 = .ok (.iload_n 3, 1) := by decide +kernel
theorem dX8_tell_71 : decode cX8_tell 71 = .ok (.aload_n 0, 1) := by decide +kernel
theorem dX8_tell_72 : decode cX8_tell 72 = .ok (.getfield 36, 3) := by decide +kernel
theorem dX8_tell_75 : decode cX8_tell 75 = .ok (.iastore, 1) := by decide +kernel
theorem dX8_tell_76 : decode cX8_tell 76 = .ok (.aload_n 0, 1) := by decide +kernel
theorem dX8_tell_77 : decode cX8_tell 77 = .ok (.dup, 1) := by decide +kernel
theorem dX8_tell_78 : decode cX8_tell 78 = .ok (.getfield 36, 3) := by decide +kernel
theorem dX8_tell_81 : decode cX8_tell 81 = .ok (.iconst 1, 1) := by decide +kernel
theorem dX8_tell_82 : decode cX8_tell 82 = .ok (.iadd, 1) := by decide +kernel
theorem dX8_tell_83 : decode cX8_tell 83 = .ok (.putfield 36, 3) := by decide +kernel
theorem dX8_tell_86 : decode cX8_tell 86 = .ok (.aload_n 0, 1) := by decide +kernel
theorem dX8_tell_87 : decode cX8_tell 87 = .ok (.getfield 36, 3) := by decide +kernel
theorem dX8_tell_90 : decode cX8_tell 90 = .ok (.ireturn, 1) := by decide +kernel
theorem dX8_forget_0 : decode cX8_forget 0 = .ok (.aload_n 0, 1) := by decide +kernel
theorem dX8_forget_1 : decode cX8_forget 1 = .ok (.iconst 0, 1) := by decide +kernel
theorem dX8_forget_2 : decode cX8_forget 2 = .ok (.putfield 36, 3) := by decide +kernel
theorem dX8_forget_5 : decode cX8_forget 5 = .ok (.return_, 1) := by decide +kernel
theorem dX8_greatestWorth_0 : decode cX8_greatestWorth 0 = .ok (.aload_n 0, 1) := by decide +kernel
theorem dX8_greatestWorth_1 : decode cX8_greatestWorth 1 = .ok (.iconst 0, 1) := by decide +kernel
theorem dX8_greatestWorth_2 : decode cX8_greatestWorth 2 = .ok (.sipush 4095, 3) := by decide +kernel
theorem dX8_greatestWorth_5 : decode cX8_greatestWorth 5 = .ok (.invokevirtual 40, 3) := by decide +kernel
theorem dX8_greatestWorth_8 : decode cX8_greatestWorth 8 = .ok (.ireturn, 1) := by decide +kernel
theorem dX8_choose_0 : decode cX8_choose 0 = .ok (.sipush 4095, 3) := by decide +kernel
theorem dX8_choose_3 : decode cX8_choose 3 = .ok (.istore_n 1, 1) := by decide +kernel
theorem dX8_choose_4 : decode cX8_choose 4 = .ok (.aload_n 0, 1) := by decide +kernel
theorem dX8_choose_5 : decode cX8_choose 5 = .ok (.invokevirtual 44, 3) := by decide +kernel
theorem dX8_choose_8 : decode cX8_choose 8 = .ok (.istore_n 2, 1) := by decide +kernel
theorem dX8_choose_9 : decode cX8_choose 9 = .ok (.iconst 0, 1) := by decide +kernel
theorem dX8_choose_10 : decode cX8_choose 10 = .ok (.istore_n 3, 1) := by decide +kernel
theorem dX8_choose_11 : decode cX8_choose 11 = .ok (.iload_n 3, 1) := by decide +kernel
theorem dX8_choose_12 : decode cX8_choose 12 = .ok (.aload_n 0, 1) := by decide +kernel
theorem dX8_choose_13 : decode cX8_choose 13 = .ok (.getfield 36, 3) := by decide +kernel
theorem dX8_choose_16 : decode cX8_choose 16 = .ok (.if_icmp .ge 51, 3) := by decide +kernel
theorem dX8_choose_19 : decode cX8_choose 19 = .ok (.aload_n 0, 1) := by decide +kernel
theorem dX8_choose_20 : decode cX8_choose 20 = .ok (.iload_n 3, 1) := by decide +kernel
theorem dX8_choose_21 : decode cX8_choose 21 = .ok (.iload_n 1, 1) := by decide +kernel
theorem dX8_choose_22 : decode cX8_choose 22 = .ok (.iload_n 2, 1) := by decide +kernel
theorem dX8_choose_23 : decode cX8_choose 23 = .ok (.invokevirtual 48, 3) := by decide +kernel
theorem dX8_choose_26 : decode cX8_choose 26 = .ok (.istore 4, 2) := by decide +kernel
theorem dX8_choose_28 : decode cX8_choose 28 = .ok (.aload_n 0, 1) := by decide +kernel
theorem dX8_choose_29 : decode cX8_choose 29 = .ok (.getfield 21, 3) := by decide +kernel
theorem dX8_choose_32 : decode cX8_choose 32 = .ok (.iload_n 3, 1) := by decide +kernel
theorem dX8_choose_33 : decode cX8_choose 33 = .ok (.iload 4, 2) := by decide +kernel
theorem dX8_choose_35 : decode cX8_choose 35 = .ok (.iastore, 1) := by decide +kernel
theorem dX8_choose_36 : decode cX8_choose 36 = .ok (.iload 4, 2) := by decide +kernel
theorem dX8_choose_38 : decode cX8_choose 38 = .ok (.bipush (-9), 2) := by decide +kernel
theorem dX8_choose_40 : decode cX8_choose 40 = .ok (.if_icmp .eq 21, 3) := by decide +kernel
theorem dX8_choose_43 : decode cX8_choose 43 = .ok (.iload_n 1, 1) := by decide +kernel
theorem dX8_choose_44 : decode cX8_choose 44 = .ok (.iconst 1, 1) := by decide +kernel
theorem dX8_choose_45 : decode cX8_choose 45 = .ok (.iload 4, 2) := by decide +kernel
theorem dX8_choose_47 : decode cX8_choose 47 = .ok (.ishl, 1) := by decide +kernel
theorem dX8_choose_48 : decode cX8_choose 48 = .ok (.iconst (-1), 1) := by decide +kernel
theorem dX8_choose_49 : decode cX8_choose 49 = .ok (.ixor, 1) := by decide +kernel
theorem dX8_choose_50 : decode cX8_choose 50 = .ok (.iand, 1) := by decide +kernel
theorem dX8_choose_51 : decode cX8_choose 51 = .ok (.istore_n 1, 1) := by decide +kernel
theorem dX8_choose_52 : decode cX8_choose 52 = .ok (.iload_n 2, 1) := by decide +kernel
theorem dX8_choose_53 : decode cX8_choose 53 = .ok (.aload_n 0, 1) := by decide +kernel
theorem dX8_choose_54 : decode cX8_choose 54 = .ok (.getfield 15, 3) := by decide +kernel
theorem dX8_choose_57 : decode cX8_choose 57 = .ok (.iload_n 3, 1) := by decide +kernel
theorem dX8_choose_58 : decode cX8_choose 58 = .ok (.iaload, 1) := by decide +kernel
theorem dX8_choose_59 : decode cX8_choose 59 = .ok (.isub, 1) := by decide +kernel
theorem dX8_choose_60 : decode cX8_choose 60 = .ok (.istore_n 2, 1) := by decide +kernel
theorem dX8_choose_61 : decode cX8_choose 61 = .ok (.iinc 3 1, 3) := by decide +kernel
theorem dX8_choose_64 : decode cX8_choose 64 = .ok (.goto (-53), 3) := by decide +kernel
theorem dX8_choose_67 : decode cX8_choose 67 = .ok (.return_, 1) := by decide +kernel
theorem dX8_leastSpot_0 : decode cX8_leastSpot 0 = .ok (.iconst 0, 1) := by decide +kernel
theorem dX8_leastSpot_1 : decode cX8_leastSpot 1 = .ok (.istore 4, 2) := by decide +kernel
theorem dX8_leastSpot_3 : decode cX8_leastSpot 3 = .ok (.iload 4, 2) := by decide +kernel
theorem dX8_leastSpot_5 : decode cX8_leastSpot 5 = .ok (.bipush 12, 2) := by decide +kernel
theorem dX8_leastSpot_7 : decode cX8_leastSpot 7 = .ok (.if_icmp .ge 56, 3) := by decide +kernel
theorem dX8_leastSpot_10 : decode cX8_leastSpot 10 = .ok (.iconst 1, 1) := by decide +kernel
theorem dX8_leastSpot_11 : decode cX8_leastSpot 11 = .ok (.iload 4, 2) := by decide +kernel
theorem dX8_leastSpot_13 : decode cX8_leastSpot 13 = .ok (.ishl, 1) := by decide +kernel
theorem dX8_leastSpot_14 : decode cX8_leastSpot 14 = .ok (.istore 5, 2) := by decide +kernel
theorem dX8_leastSpot_16 : decode cX8_leastSpot 16 = .ok (.aload_n 0, 1) := by decide +kernel
theorem dX8_leastSpot_17 : decode cX8_leastSpot 17 = .ok (.getfield 18, 3) := by decide +kernel
theorem dX8_leastSpot_20 : decode cX8_leastSpot 20 = .ok (.iload_n 1, 1) := by decide +kernel
theorem dX8_leastSpot_21 : decode cX8_leastSpot 21 = .ok (.iaload, 1) := by decide +kernel
theorem dX8_leastSpot_22 : decode cX8_leastSpot 22 = .ok (.iload_n 2, 1) := by decide +kernel
theorem dX8_leastSpot_23 : decode cX8_leastSpot 23 = .ok (.iand, 1) := by decide +kernel
theorem dX8_leastSpot_24 : decode cX8_leastSpot 24 = .ok (.iload 5, 2) := by decide +kernel
theorem dX8_leastSpot_26 : decode cX8_leastSpot 26 = .ok (.iand, 1) := by decide +kernel
theorem dX8_leastSpot_27 : decode cX8_leastSpot 27 = .ok (.ifCond .eq 30, 3) := by decide +kernel
theorem dX8_leastSpot_30 : decode cX8_leastSpot 30 = .ok (.aload_n 0, 1) := by decide +kernel
theorem dX8_leastSpot_31 : decode cX8_leastSpot 31 = .ok (.getfield 15, 3) := by decide +kernel
theorem dX8_leastSpot_34 : decode cX8_leastSpot 34 = .ok (.iload_n 1, 1) := by decide +kernel
theorem dX8_leastSpot_35 : decode cX8_leastSpot 35 = .ok (.iaload, 1) := by decide +kernel
theorem dX8_leastSpot_36 : decode cX8_leastSpot 36 = .ok (.aload_n 0, 1) := by decide +kernel
theorem dX8_leastSpot_37 : decode cX8_leastSpot 37 = .ok (.iload_n 1, 1) := by decide +kernel
theorem dX8_leastSpot_38 : decode cX8_leastSpot 38 = .ok (.iconst 1, 1) := by decide +kernel
theorem dX8_leastSpot_39 : decode cX8_leastSpot 39 = .ok (.iadd, 1) := by decide +kernel
theorem dX8_leastSpot_40 : decode cX8_leastSpot 40 = .ok (.iload_n 2, 1) := by decide +kernel
theorem dX8_leastSpot_41 : decode cX8_leastSpot 41 = .ok (.iload 5, 2) := by decide +kernel
theorem dX8_leastSpot_43 : decode cX8_leastSpot 43 = .ok (.iconst (-1), 1) := by decide +kernel
theorem dX8_leastSpot_44 : decode cX8_leastSpot 44 = .ok (.ixor, 1) := by decide +kernel
theorem dX8_leastSpot_45 : decode cX8_leastSpot 45 = .ok (.iand, 1) := by decide +kernel
theorem dX8_leastSpot_46 : decode cX8_leastSpot 46 = .ok (.invokevirtual 40, 3) := by decide +kernel
theorem dX8_leastSpot_49 : decode cX8_leastSpot 49 = .ok (.iadd, 1) := by decide +kernel
theorem dX8_leastSpot_50 : decode cX8_leastSpot 50 = .ok (.iload_n 3, 1) := by decide +kernel
theorem dX8_leastSpot_51 : decode cX8_leastSpot 51 = .ok (.if_icmp .ne 6, 3) := by decide +kernel
theorem dX8_leastSpot_54 : decode cX8_leastSpot 54 = .ok (.iload 4, 2) := by decide +kernel
theorem dX8_leastSpot_56 : decode cX8_leastSpot 56 = .ok (.ireturn, 1) := by decide +kernel
theorem dX8_leastSpot_57 : decode cX8_leastSpot 57 = .ok (.iinc 4 1, 3) := by decide +kernel
theorem dX8_leastSpot_60 : decode cX8_leastSpot 60 = .ok (.goto (-57), 3) := by decide +kernel
theorem dX8_leastSpot_63 : decode cX8_leastSpot 63 = .ok (.bipush (-9), 2) := by decide +kernel
theorem dX8_leastSpot_65 : decode cX8_leastSpot 65 = .ok (.ireturn, 1) := by decide +kernel
theorem dX8_worthFrom_0 : decode cX8_worthFrom 0 = .ok (.iconst 0, 1) := by decide +kernel
theorem dX8_worthFrom_1 : decode cX8_worthFrom 1 = .ok (.istore_n 3, 1) := by decide +kernel
theorem dX8_worthFrom_2 : decode cX8_worthFrom 2 = .ok (.iload_n 3, 1) := by decide +kernel
theorem dX8_worthFrom_3 : decode cX8_worthFrom 3 = .ok (.aload_n 0, 1) := by decide +kernel
theorem dX8_worthFrom_4 : decode cX8_worthFrom 4 = .ok (.getfield 36, 3) := by decide +kernel
theorem dX8_worthFrom_7 : decode cX8_worthFrom 7 = .ok (.if_icmp .ge 17, 3) := by decide +kernel
theorem dX8_worthFrom_10 : decode cX8_worthFrom 10 = .ok (.aload_n 0, 1) := by decide +kernel
theorem dX8_worthFrom_11 : decode cX8_worthFrom 11 = .ok (.getfield 27, 3) := by decide +kernel
theorem dX8_worthFrom_14 : decode cX8_worthFrom 14 = .ok (.iload_n 3, 1) := by decide +kernel
theorem dX8_worthFrom_15 : decode cX8_worthFrom 15 = .ok (.bipush (-9), 2) := by decide +kernel
theorem dX8_worthFrom_17 : decode cX8_worthFrom 17 = .ok (.iastore, 1) := by decide +kernel
theorem dX8_worthFrom_18 : decode cX8_worthFrom 18 = .ok (.iinc 3 1, 3) := by decide +kernel
theorem dX8_worthFrom_21 : decode cX8_worthFrom 21 = .ok (.goto (-19), 3) := by decide +kernel
theorem dX8_worthFrom_24 : decode cX8_worthFrom 24 = .ok (.iconst 0, 1) := by decide +kernel
theorem dX8_worthFrom_25 : decode cX8_worthFrom 25 = .ok (.istore_n 3, 1) := by decide +kernel
theorem dX8_worthFrom_26 : decode cX8_worthFrom 26 = .ok (.iload_n 3, 1) := by decide +kernel
theorem dX8_worthFrom_27 : decode cX8_worthFrom 27 = .ok (.bipush 12, 2) := by decide +kernel
theorem dX8_worthFrom_29 : decode cX8_worthFrom 29 = .ok (.if_icmp .ge 17, 3) := by decide +kernel
theorem dX8_worthFrom_32 : decode cX8_worthFrom 32 = .ok (.aload_n 0, 1) := by decide +kernel
theorem dX8_worthFrom_33 : decode cX8_worthFrom 33 = .ok (.getfield 30, 3) := by decide +kernel
theorem dX8_worthFrom_36 : decode cX8_worthFrom 36 = .ok (.iload_n 3, 1) := by decide +kernel
theorem dX8_worthFrom_37 : decode cX8_worthFrom 37 = .ok (.bipush (-9), 2) := by decide +kernel
theorem dX8_worthFrom_39 : decode cX8_worthFrom 39 = .ok (.iastore, 1) := by decide +kernel
theorem dX8_worthFrom_40 : decode cX8_worthFrom 40 = .ok (.iinc 3 1, 3) := by decide +kernel
theorem dX8_worthFrom_43 : decode cX8_worthFrom 43 = .ok (.goto (-17), 3) := by decide +kernel
theorem dX8_worthFrom_46 : decode cX8_worthFrom 46 = .ok (.iconst 0, 1) := by decide +kernel
theorem dX8_worthFrom_47 : decode cX8_worthFrom 47 = .ok (.istore_n 3, 1) := by decide +kernel
theorem dX8_worthFrom_48 : decode cX8_worthFrom 48 = .ok (.iconst 0, 1) := by decide +kernel
theorem dX8_worthFrom_49 : decode cX8_worthFrom 49 = .ok (.istore 4, 2) := by decide +kernel
theorem dX8_worthFrom_51 : decode cX8_worthFrom 51 = .ok (.iload 4, 2) := by decide +kernel
theorem dX8_worthFrom_53 : decode cX8_worthFrom 53 = .ok (.aload_n 0, 1) := by decide +kernel
theorem dX8_worthFrom_54 : decode cX8_worthFrom 54 = .ok (.getfield 36, 3) := by decide +kernel
theorem dX8_worthFrom_57 : decode cX8_worthFrom 57 = .ok (.if_icmp .ge 44, 3) := by decide +kernel
theorem dX8_worthFrom_60 : decode cX8_worthFrom 60 = .ok (.aload_n 0, 1) := by decide +kernel
theorem dX8_worthFrom_61 : decode cX8_worthFrom 61 = .ok (.getfield 24, 3) := by decide +kernel
theorem dX8_worthFrom_64 : decode cX8_worthFrom 64 = .ok (.iload 4, 2) := by decide +kernel
theorem dX8_worthFrom_66 : decode cX8_worthFrom 66 = .ok (.iaload, 1) := by decide +kernel
theorem dX8_worthFrom_67 : decode cX8_worthFrom 67 = .ok (.istore 5, 2) := by decide +kernel
theorem dX8_worthFrom_69 : decode cX8_worthFrom 69 = .ok (.iload 5, 2) := by decide +kernel
theorem dX8_worthFrom_71 : decode cX8_worthFrom 71 = .ok (.iload_n 1, 1) := by decide +kernel
theorem dX8_worthFrom_72 : decode cX8_worthFrom 72 = .ok (.if_icmp .lt 23, 3) := by decide +kernel
theorem dX8_worthFrom_75 : decode cX8_worthFrom 75 = .ok (.aload_n 0, 1) := by decide +kernel
theorem dX8_worthFrom_76 : decode cX8_worthFrom 76 = .ok (.iload 5, 2) := by decide +kernel
theorem dX8_worthFrom_78 : decode cX8_worthFrom 78 = .ok (.iload_n 2, 1) := by decide +kernel
theorem dX8_worthFrom_79 : decode cX8_worthFrom 79 = .ok (.invokevirtual 52, 3) := by decide +kernel
theorem dX8_worthFrom_82 : decode cX8_worthFrom 82 = .ok (.ifCond .eq 13, 3) := by decide +kernel
theorem dX8_worthFrom_85 : decode cX8_worthFrom 85 = .ok (.iload_n 3, 1) := by decide +kernel
theorem dX8_worthFrom_86 : decode cX8_worthFrom 86 = .ok (.aload_n 0, 1) := by decide +kernel
theorem dX8_worthFrom_87 : decode cX8_worthFrom 87 = .ok (.getfield 15, 3) := by decide +kernel
theorem dX8_worthFrom_90 : decode cX8_worthFrom 90 = .ok (.iload 5, 2) := by decide +kernel
theorem dX8_worthFrom_92 : decode cX8_worthFrom 92 = .ok (.iaload, 1) := by decide +kernel
theorem dX8_worthFrom_93 : decode cX8_worthFrom 93 = .ok (.iadd, 1) := by decide +kernel
theorem dX8_worthFrom_94 : decode cX8_worthFrom 94 = .ok (.istore_n 3, 1) := by decide +kernel
theorem dX8_worthFrom_95 : decode cX8_worthFrom 95 = .ok (.iinc 4 1, 3) := by decide +kernel
theorem dX8_worthFrom_98 : decode cX8_worthFrom 98 = .ok (.goto (-47), 3) := by decide +kernel
theorem dX8_worthFrom_101 : decode cX8_worthFrom 101 = .ok (.iload_n 3, 1) := by decide +kernel
theorem dX8_worthFrom_102 : decode cX8_worthFrom 102 = .ok (.ireturn, 1) := by decide +kernel
theorem dX8_findSeat_0 : decode cX8_findSeat 0 = .ok (.aload_n 0, 1) := by decide +kernel
theorem dX8_findSeat_1 : decode cX8_findSeat 1 = .ok (.getfield 18, 3) := by decide +kernel
theorem dX8_findSeat_4 : decode cX8_findSeat 4 = .ok (.iload_n 1, 1) := by decide +kernel
theorem dX8_findSeat_5 : decode cX8_findSeat 5 = .ok (.iaload, 1) := by decide +kernel
theorem dX8_findSeat_6 : decode cX8_findSeat 6 = .ok (.iload_n 2, 1) := by decide +kernel
theorem dX8_findSeat_7 : decode cX8_findSeat 7 = .ok (.iand, 1) := by decide +kernel
theorem dX8_findSeat_8 : decode cX8_findSeat 8 = .ok (.istore_n 3, 1) := by decide +kernel
theorem dX8_findSeat_9 : decode cX8_findSeat 9 = .ok (.iload_n 3, 1) := by decide +kernel
theorem dX8_findSeat_10 : decode cX8_findSeat 10 = .ok (.istore 4, 2) := by decide +kernel
theorem dX8_findSeat_12 : decode cX8_findSeat 12 = .ok (.aload_n 0, 1) := by decide +kernel
theorem dX8_findSeat_13 : decode cX8_findSeat 13 = .ok (.iload_n 3, 1) := by decide +kernel
theorem dX8_findSeat_14 : decode cX8_findSeat 14 = .ok (.iload_n 1, 1) := by decide +kernel
theorem dX8_findSeat_15 : decode cX8_findSeat 15 = .ok (.invokevirtual 56, 3) := by decide +kernel
theorem dX8_findSeat_18 : decode cX8_findSeat 18 = .ok (.iconst 0, 1) := by decide +kernel
theorem dX8_findSeat_19 : decode cX8_findSeat 19 = .ok (.istore 5, 2) := by decide +kernel
theorem dX8_findSeat_21 : decode cX8_findSeat 21 = .ok (.iload 5, 2) := by decide +kernel
theorem dX8_findSeat_23 : decode cX8_findSeat 23 = .ok (.bipush 12, 2) := by decide +kernel
theorem dX8_findSeat_25 : decode cX8_findSeat 25 = .ok (.if_icmp .ge 89, 3) := by decide +kernel
theorem dX8_findSeat_28 : decode cX8_findSeat 28 = .ok (.iload 4, 2) := by decide +kernel
theorem dX8_findSeat_30 : decode cX8_findSeat 30 = .ok (.ifCond .eq 84, 3) := by decide +kernel
theorem dX8_findSeat_33 : decode cX8_findSeat 33 = .ok (.iload 4, 2) := by decide +kernel
theorem dX8_findSeat_35 : decode cX8_findSeat 35 = .ok (.invokestatic 60, 3) := by decide +kernel
theorem dX8_findSeat_38 : decode cX8_findSeat 38 = .ok (.istore 6, 2) := by decide +kernel
theorem dX8_findSeat_40 : decode cX8_findSeat 40 = .ok (.iload 4, 2) := by decide +kernel
theorem dX8_findSeat_42 : decode cX8_findSeat 42 = .ok (.iload 4, 2) := by decide +kernel
theorem dX8_findSeat_44 : decode cX8_findSeat 44 = .ok (.iconst 1, 1) := by decide +kernel
theorem dX8_findSeat_45 : decode cX8_findSeat 45 = .ok (.isub, 1) := by decide +kernel
theorem dX8_findSeat_46 : decode cX8_findSeat 46 = .ok (.iand, 1) := by decide +kernel
theorem dX8_findSeat_47 : decode cX8_findSeat 47 = .ok (.istore 4, 2) := by decide +kernel
theorem dX8_findSeat_49 : decode cX8_findSeat 49 = .ok (.aload_n 0, 1) := by decide +kernel
theorem dX8_findSeat_50 : decode cX8_findSeat 50 = .ok (.getfield 30, 3) := by decide +kernel
theorem dX8_findSeat_53 : decode cX8_findSeat 53 = .ok (.iload 6, 2) := by decide +kernel
theorem dX8_findSeat_55 : decode cX8_findSeat 55 = .ok (.iaload, 1) := by decide +kernel
theorem dX8_findSeat_56 : decode cX8_findSeat 56 = .ok (.istore 7, 2) := by decide +kernel
theorem dX8_findSeat_58 : decode cX8_findSeat 58 = .ok (.iload 7, 2) := by decide +kernel
theorem dX8_findSeat_60 : decode cX8_findSeat 60 = .ok (.bipush (-9), 2) := by decide +kernel
theorem dX8_findSeat_62 : decode cX8_findSeat 62 = .ok (.if_icmp .ne 11, 3) := by decide +kernel
theorem dX8_findSeat_65 : decode cX8_findSeat 65 = .ok (.aload_n 0, 1) := by decide +kernel
theorem dX8_findSeat_66 : decode cX8_findSeat 66 = .ok (.iload 6, 2) := by decide +kernel
theorem dX8_findSeat_68 : decode cX8_findSeat 68 = .ok (.invokevirtual 66, 3) := by decide +kernel
theorem dX8_findSeat_71 : decode cX8_findSeat 71 = .ok (.iconst 1, 1) := by decide +kernel
theorem dX8_findSeat_72 : decode cX8_findSeat 72 = .ok (.ireturn, 1) := by decide +kernel
theorem dX8_findSeat_73 : decode cX8_findSeat 73 = .ok (.aload_n 0, 1) := by decide +kernel
theorem dX8_findSeat_74 : decode cX8_findSeat 74 = .ok (.getfield 18, 3) := by decide +kernel
theorem dX8_findSeat_77 : decode cX8_findSeat 77 = .ok (.iload 7, 2) := by decide +kernel
theorem dX8_findSeat_79 : decode cX8_findSeat 79 = .ok (.iaload, 1) := by decide +kernel
theorem dX8_findSeat_80 : decode cX8_findSeat 80 = .ok (.iload_n 2, 1) := by decide +kernel
theorem dX8_findSeat_81 : decode cX8_findSeat 81 = .ok (.iand, 1) := by decide +kernel
theorem dX8_findSeat_82 : decode cX8_findSeat 82 = .ok (.iload_n 3, 1) := by decide +kernel
theorem dX8_findSeat_83 : decode cX8_findSeat 83 = .ok (.iconst (-1), 1) := by decide +kernel
theorem dX8_findSeat_84 : decode cX8_findSeat 84 = .ok (.ixor, 1) := by decide +kernel
theorem dX8_findSeat_85 : decode cX8_findSeat 85 = .ok (.iand, 1) := by decide +kernel
theorem dX8_findSeat_86 : decode cX8_findSeat 86 = .ok (.istore 8, 2) := by decide +kernel
theorem dX8_findSeat_88 : decode cX8_findSeat 88 = .ok (.aload_n 0, 1) := by decide +kernel
theorem dX8_findSeat_89 : decode cX8_findSeat 89 = .ok (.iload 8, 2) := by decide +kernel
theorem dX8_findSeat_91 : decode cX8_findSeat 91 = .ok (.iload 7, 2) := by decide +kernel
theorem dX8_findSeat_93 : decode cX8_findSeat 93 = .ok (.invokevirtual 56, 3) := by decide +kernel
theorem dX8_findSeat_96 : decode cX8_findSeat 96 = .ok (.iload_n 3, 1) := by decide +kernel
theorem dX8_findSeat_97 : decode cX8_findSeat 97 = .ok (.iload 8, 2) := by decide +kernel
theorem dX8_findSeat_99 : decode cX8_findSeat 99 = .ok (.ior, 1) := by decide +kernel
theorem dX8_findSeat_100 : decode cX8_findSeat 100 = .ok (.istore_n 3, 1) := by decide +kernel
theorem dX8_findSeat_101 : decode cX8_findSeat 101 = .ok (.iload 4, 2) := by decide +kernel
theorem dX8_findSeat_103 : decode cX8_findSeat 103 = .ok (.iload 8, 2) := by decide +kernel
theorem dX8_findSeat_105 : decode cX8_findSeat 105 = .ok (.ior, 1) := by decide +kernel
theorem dX8_findSeat_106 : decode cX8_findSeat 106 = .ok (.istore 4, 2) := by decide +kernel
theorem dX8_findSeat_108 : decode cX8_findSeat 108 = .ok (.iinc 5 1, 3) := by decide +kernel
theorem dX8_findSeat_111 : decode cX8_findSeat 111 = .ok (.goto (-90), 3) := by decide +kernel
theorem dX8_findSeat_114 : decode cX8_findSeat 114 = .ok (.iconst 0, 1) := by decide +kernel
theorem dX8_findSeat_115 : decode cX8_findSeat 115 = .ok (.ireturn, 1) := by decide +kernel
theorem dX8_noteMover_0 : decode cX8_noteMover 0 = .ok (.iconst 0, 1) := by decide +kernel
theorem dX8_noteMover_1 : decode cX8_noteMover 1 = .ok (.istore_n 3, 1) := by decide +kernel
theorem dX8_noteMover_2 : decode cX8_noteMover 2 = .ok (.iload_n 3, 1) := by decide +kernel
theorem dX8_noteMover_3 : decode cX8_noteMover 3 = .ok (.bipush 12, 2) := by decide +kernel
theorem dX8_noteMover_5 : decode cX8_noteMover 5 = .ok (.if_icmp .ge 24, 3) := by decide +kernel
theorem dX8_noteMover_8 : decode cX8_noteMover 8 = .ok (.iload_n 1, 1) := by decide +kernel
theorem dX8_noteMover_9 : decode cX8_noteMover 9 = .ok (.iconst 1, 1) := by decide +kernel
theorem dX8_noteMover_10 : decode cX8_noteMover 10 = .ok (.iload_n 3, 1) := by decide +kernel
theorem dX8_noteMover_11 : decode cX8_noteMover 11 = .ok (.ishl, 1) := by decide +kernel
theorem dX8_noteMover_12 : decode cX8_noteMover 12 = .ok (.iand, 1) := by decide +kernel
theorem dX8_noteMover_13 : decode cX8_noteMover 13 = .ok (.ifCond .eq 10, 3) := by decide +kernel
theorem dX8_noteMover_16 : decode cX8_noteMover 16 = .ok (.aload_n 0, 1) := by decide +kernel
theorem dX8_noteMover_17 : decode cX8_noteMover 17 = .ok (.getfield 33, 3) := by decide +kernel
theorem dX8_noteMover_20 : decode cX8_noteMover 20 = .ok (.iload_n 3, 1) := by decide +kernel
theorem dX8_noteMover_21 : decode cX8_noteMover 21 = .ok (.iload_n 2, 1) := by decide +kernel
theorem dX8_noteMover_22 : decode cX8_noteMover 22 = .ok (.iastore, 1) := by decide +kernel
theorem dX8_noteMover_23 : decode cX8_noteMover 23 = .ok (.iinc 3 1, 3) := by decide +kernel
theorem dX8_noteMover_26 : decode cX8_noteMover 26 = .ok (.goto (-24), 3) := by decide +kernel
theorem dX8_noteMover_29 : decode cX8_noteMover 29 = .ok (.return_, 1) := by decide +kernel
theorem dX8_moveAlong_0 : decode cX8_moveAlong 0 = .ok (.iload_n 1, 1) := by decide +kernel
theorem dX8_moveAlong_1 : decode cX8_moveAlong 1 = .ok (.istore_n 2, 1) := by decide +kernel
theorem dX8_moveAlong_2 : decode cX8_moveAlong 2 = .ok (.iconst 0, 1) := by decide +kernel
theorem dX8_moveAlong_3 : decode cX8_moveAlong 3 = .ok (.istore_n 3, 1) := by decide +kernel
theorem dX8_moveAlong_4 : decode cX8_moveAlong 4 = .ok (.iload_n 3, 1) := by decide +kernel
theorem dX8_moveAlong_5 : decode cX8_moveAlong 5 = .ok (.bipush 12, 2) := by decide +kernel
theorem dX8_moveAlong_7 : decode cX8_moveAlong 7 = .ok (.if_icmp .ge 51, 3) := by decide +kernel
theorem dX8_moveAlong_10 : decode cX8_moveAlong 10 = .ok (.iload_n 2, 1) := by decide +kernel
theorem dX8_moveAlong_11 : decode cX8_moveAlong 11 = .ok (.bipush (-9), 2) := by decide +kernel
theorem dX8_moveAlong_13 : decode cX8_moveAlong 13 = .ok (.if_icmp .eq 45, 3) := by decide +kernel
theorem dX8_moveAlong_16 : decode cX8_moveAlong 16 = .ok (.aload_n 0, 1) := by decide +kernel
theorem dX8_moveAlong_17 : decode cX8_moveAlong 17 = .ok (.getfield 33, 3) := by decide +kernel
theorem dX8_moveAlong_20 : decode cX8_moveAlong 20 = .ok (.iload_n 2, 1) := by decide +kernel
theorem dX8_moveAlong_21 : decode cX8_moveAlong 21 = .ok (.iaload, 1) := by decide +kernel
theorem dX8_moveAlong_22 : decode cX8_moveAlong 22 = .ok (.istore 4, 2) := by decide +kernel
theorem dX8_moveAlong_24 : decode cX8_moveAlong 24 = .ok (.aload_n 0, 1) := by decide +kernel
theorem dX8_moveAlong_25 : decode cX8_moveAlong 25 = .ok (.getfield 27, 3) := by decide +kernel
theorem dX8_moveAlong_28 : decode cX8_moveAlong 28 = .ok (.iload 4, 2) := by decide +kernel
theorem dX8_moveAlong_30 : decode cX8_moveAlong 30 = .ok (.iaload, 1) := by decide +kernel
theorem dX8_moveAlong_31 : decode cX8_moveAlong 31 = .ok (.istore 5, 2) := by decide +kernel
theorem dX8_moveAlong_33 : decode cX8_moveAlong 33 = .ok (.aload_n 0, 1) := by decide +kernel
theorem dX8_moveAlong_34 : decode cX8_moveAlong 34 = .ok (.getfield 27, 3) := by decide +kernel
theorem dX8_moveAlong_37 : decode cX8_moveAlong 37 = .ok (.iload 4, 2) := by decide +kernel
theorem dX8_moveAlong_39 : decode cX8_moveAlong 39 = .ok (.iload_n 2, 1) := by decide +kernel
theorem dX8_moveAlong_40 : decode cX8_moveAlong 40 = .ok (.iastore, 1) := by decide +kernel
theorem dX8_moveAlong_41 : decode cX8_moveAlong 41 = .ok (.aload_n 0, 1) := by decide +kernel
theorem dX8_moveAlong_42 : decode cX8_moveAlong 42 = .ok (.getfield 30, 3) := by decide +kernel
theorem dX8_moveAlong_45 : decode cX8_moveAlong 45 = .ok (.iload_n 2, 1) := by decide +kernel
theorem dX8_moveAlong_46 : decode cX8_moveAlong 46 = .ok (.iload 4, 2) := by decide +kernel
theorem dX8_moveAlong_48 : decode cX8_moveAlong 48 = .ok (.iastore, 1) := by decide +kernel
theorem dX8_moveAlong_49 : decode cX8_moveAlong 49 = .ok (.iload 5, 2) := by decide +kernel
theorem dX8_moveAlong_51 : decode cX8_moveAlong 51 = .ok (.istore_n 2, 1) := by decide +kernel
theorem dX8_moveAlong_52 : decode cX8_moveAlong 52 = .ok (.iinc 3 1, 3) := by decide +kernel
theorem dX8_moveAlong_55 : decode cX8_moveAlong 55 = .ok (.goto (-51), 3) := by decide +kernel
theorem dX8_moveAlong_58 : decode cX8_moveAlong 58 = .ok (.return_, 1) := by decide +kernel
theorem dX9_init_0 : decode cX9_init 0 = .ok (.aload_n 0, 1) := by decide +kernel
theorem dX9_init_1 : decode cX9_init 1 = .ok (.invokespecial 3, 3) := by decide +kernel
theorem dX9_init_4 : decode cX9_init 4 = .ok (.aload_n 0, 1) := by decide +kernel
theorem dX9_init_5 : decode cX9_init 5 = .ok (.iconst 3, 1) := by decide +kernel
theorem dX9_init_6 : decode cX9_init 6 = .ok (.newarray .int, 2) := by decide +kernel
theorem dX9_init_8 : decode cX9_init 8 = .ok (.putfield 9, 3) := by decide +kernel
theorem dX9_init_11 : decode cX9_init 11 = .ok (.aload_n 0, 1) := by decide +kernel
theorem dX9_init_12 : decode cX9_init 12 = .ok (.bipush 8, 2) := by decide +kernel
theorem dX9_init_14 : decode cX9_init 14 = .ok (.newarray .int, 2) := by decide +kernel
theorem dX9_init_16 : decode cX9_init 16 = .ok (.putfield 15, 3) := by decide +kernel
theorem dX9_init_19 : decode cX9_init 19 = .ok (.aload_n 0, 1) := by decide +kernel
theorem dX9_init_20 : decode cX9_init 20 = .ok (.bipush 8, 2) := by decide +kernel
theorem dX9_init_22 : decode cX9_init 22 = .ok (.newarray .int, 2) := by decide +kernel
theorem dX9_init_24 : decode cX9_init 24 = .ok (.putfield 18, 3) := by decide +kernel
theorem dX9_init_27 : decode cX9_init 27 = .ok (.aload_n 0, 1) := by decide +kernel
theorem dX9_init_28 : decode cX9_init 28 = .ok (.bipush 8, 2) := by decide +kernel
theorem dX9_init_30 : decode cX9_init 30 = .ok (.newarray .int, 2) := by decide +kernel
theorem dX9_init_32 : decode cX9_init 32 = .ok (.putfield 21, 3) := by decide +kernel
theorem dX9_init_35 : decode cX9_init 35 = .ok (.aload_n 0, 1) := by decide +kernel
theorem dX9_init_36 : decode cX9_init 36 = .ok (.iconst 3, 1) := by decide +kernel
theorem dX9_init_37 : decode cX9_init 37 = .ok (.newarray .int, 2) := by decide +kernel
theorem dX9_init_39 : decode cX9_init 39 = .ok (.putfield 24, 3) := by decide +kernel
theorem dX9_init_42 : decode cX9_init 42 = .ok (.aload_n 0, 1) := by decide +kernel
theorem dX9_init_43 : decode cX9_init 43 = .ok (.iconst 0, 1) := by decide +kernel
theorem dX9_init_44 : decode cX9_init 44 = .ok (.putfield 27, 3) := by decide +kernel
theorem dX9_init_47 : decode cX9_init 47 = .ok (.aload_n 0, 1) := by decide +kernel
theorem dX9_init_48 : decode cX9_init 48 = .ok (.iconst 0, 1) := by decide +kernel
theorem dX9_init_49 : decode cX9_init 49 = .ok (.putfield 31, 3) := by decide +kernel
theorem dX9_init_52 : decode cX9_init 52 = .ok (.aload_n 0, 1) := by decide +kernel
theorem dX9_init_53 : decode cX9_init 53 = .ok (.iconst 1, 1) := by decide +kernel
theorem dX9_init_54 : decode cX9_init 54 = .ok (.putfield 34, 3) := by decide +kernel
theorem dX9_init_57 : decode cX9_init 57 = .ok (.iconst 0, 1) := by decide +kernel
theorem dX9_init_58 : decode cX9_init 58 = .ok (.istore_n 1, 1) := by decide +kernel
theorem dX9_init_59 : decode cX9_init 59 = .ok (.iload_n 1, 1) := by decide +kernel
theorem dX9_init_60 : decode cX9_init 60 = .ok (.iconst 3, 1) := by decide +kernel
theorem dX9_init_61 : decode cX9_init 61 = .ok (.if_icmp .ge 16, 3) := by decide +kernel
theorem dX9_init_64 : decode cX9_init 64 = .ok (.aload_n 0, 1) := by decide +kernel
theorem dX9_init_65 : decode cX9_init 65 = .ok (.getfield 9, 3) := by decide +kernel
theorem dX9_init_68 : decode cX9_init 68 = .ok (.iload_n 1, 1) := by decide +kernel
theorem dX9_init_69 : decode cX9_init 69 = .ok (.iconst 1, 1) := by decide +kernel
theorem dX9_init_70 : decode cX9_init 70 = .ok (.iastore, 1) := by decide +kernel
theorem dX9_init_71 : decode cX9_init 71 = .ok (.iinc 1 1, 3) := by decide +kernel
theorem dX9_init_74 : decode cX9_init 74 = .ok (.goto (-15), 3) := by decide +kernel
theorem dX9_init_77 : decode cX9_init 77 = .ok (.return_, 1) := by decide +kernel
theorem dX9_changeSkill_0 : decode cX9_changeSkill 0 = .ok (.aload_n 0, 1) := by decide +kernel
theorem dX9_changeSkill_1 : decode cX9_changeSkill 1 = .ok (.getfield 9, 3) := by decide +kernel
theorem dX9_changeSkill_4 : decode cX9_changeSkill 4 = .ok (.iload_n 1, 1) := by decide +kernel
theorem dX9_changeSkill_5 : decode cX9_changeSkill 5 = .ok (.iaload, 1) := by decide +kernel
theorem dX9_changeSkill_6 : decode cX9_changeSkill 6 = .ok (.istore_n 3, 1) := by decide +kernel
theorem dX9_changeSkill_7 : decode cX9_changeSkill 7 = .ok (.aload_n 0, 1) := by decide +kernel
theorem dX9_changeSkill_8 : decode cX9_changeSkill 8 = .ok (.getfield 9, 3) := by decide +kernel
theorem dX9_changeSkill_11 : decode cX9_changeSkill 11 = .ok (.iload_n 1, 1) := by decide +kernel
theorem dX9_changeSkill_12 : decode cX9_changeSkill 12 = .ok (.iload_n 2, 1) := by decide +kernel
theorem dX9_changeSkill_13 : decode cX9_changeSkill 13 = .ok (.iastore, 1) := by decide +kernel
theorem dX9_changeSkill_14 : decode cX9_changeSkill 14 = .ok (.aload_n 0, 1) := by decide +kernel
theorem dX9_changeSkill_15 : decode cX9_changeSkill 15 = .ok (.iconst 0, 1) := by decide +kernel
theorem dX9_changeSkill_16 : decode cX9_changeSkill 16 = .ok (.putfield 34, 3) := by decide +kernel
theorem dX9_changeSkill_19 : decode cX9_changeSkill 19 = .ok (.iload_n 3, 1) := by decide +kernel
theorem dX9_changeSkill_20 : decode cX9_changeSkill 20 = .ok (.ireturn, 1) := by decide +kernel
theorem dX9_addJob_0 : decode cX9_addJob 0 = .ok (.aload_n 0, 1) := by decide +kernel
theorem dX9_addJob_1 : decode cX9_addJob 1 = .ok (.getfield 15, 3) := by decide +kernel
theorem dX9_addJob_4 : decode cX9_addJob 4 = .ok (.aload_n 0, 1) := by decide +kernel
theorem dX9_addJob_5 : decode cX9_addJob 5 = .ok (.getfield 27, 3) := by decide +kernel
theorem dX9_addJob_8 : decode cX9_addJob 8 = .ok (.iload_n 1, 1) := by decide +kernel
theorem dX9_addJob_9 : decode cX9_addJob 9 = .ok (.iastore, 1) := by decide +kernel
theorem dX9_addJob_10 : decode cX9_addJob 10 = .ok (.aload_n 0, 1) := by decide +kernel
theorem dX9_addJob_11 : decode cX9_addJob 11 = .ok (.dup, 1) := by decide +kernel
theorem dX9_addJob_12 : decode cX9_addJob 12 = .ok (.getfield 27, 3) := by decide +kernel
theorem dX9_addJob_15 : decode cX9_addJob 15 = .ok (.iconst 1, 1) := by decide +kernel
theorem dX9_addJob_16 : decode cX9_addJob 16 = .ok (.iadd, 1) := by decide +kernel
theorem dX9_addJob_17 : decode cX9_addJob 17 = .ok (.putfield 27, 3) := by decide +kernel
theorem dX9_addJob_20 : decode cX9_addJob 20 = .ok (.aload_n 0, 1) := by decide +kernel
theorem dX9_addJob_21 : decode cX9_addJob 21 = .ok (.iconst 0, 1) := by decide +kernel
theorem dX9_addJob_22 : decode cX9_addJob 22 = .ok (.putfield 34, 3) := by decide +kernel
theorem dX9_addJob_25 : decode cX9_addJob 25 = .ok (.aload_n 0, 1) := by decide +kernel
theorem dX9_addJob_26 : decode cX9_addJob 26 = .ok (.getfield 27, 3) := by decide +kernel
theorem dX9_addJob_29 : decode cX9_addJob 29 = .ok (.iconst 1, 1) := by decide +kernel
theorem dX9_addJob_30 : decode cX9_addJob 30 = .ok (.isub, 1) := by decide +kernel
theorem dX9_addJob_31 : decode cX9_addJob 31 = .ok (.ireturn, 1) := by decide +kernel
theorem dX9_share_0 : decode cX9_share 0 = .ok (.aload_n 0, 1) := by decide +kernel
theorem dX9_share_1 : decode cX9_share 1 = .ok (.getfield 34, 3) := by decide +kernel
theorem dX9_share_4 : decode cX9_share 4 = .ok (.ifCond .eq 4, 3) := by decide +kernel
theorem dX9_share_7 : decode cX9_share 7 = .ok (.return_, 1) := by decide +kernel
theorem dX9_share_8 : decode cX9_share 8 = .ok (.iconst 0, 1) := by decide +kernel
theorem dX9_share_9 : decode cX9_share 9 = .ok (.istore_n 1, 1) := by decide +kernel
theorem dX9_share_10 : decode cX9_share 10 = .ok (.iload_n 1, 1) := by decide +kernel
theorem dX9_share_11 : decode cX9_share 11 = .ok (.iconst 3, 1) := by decide +kernel
theorem dX9_share_12 : decode cX9_share 12 = .ok (.if_icmp .ge 16, 3) := by decide +kernel
theorem dX9_share_15 : decode cX9_share 15 = .ok (.aload_n 0, 1) := by decide +kernel
theorem dX9_share_16 : decode cX9_share 16 = .ok (.getfield 24, 3) := by decide +kernel
theorem dX9_share_19 : decode cX9_share 19 = .ok (.iload_n 1, 1) := by decide +kernel
theorem dX9_share_20 : decode cX9_share 20 = .ok (.iconst 0, 1) := by decide +kernel
theorem dX9_share_21 : decode cX9_share 21 = .ok (.iastore, 1) := by decide +kernel
theorem dX9_share_22 : decode cX9_share 22 = .ok (.iinc 1 1, 3) := by decide +kernel
theorem dX9_share_25 : decode cX9_share 25 = .ok (.goto (-15), 3) := by decide +kernel
theorem dX9_share_28 : decode cX9_share 28 = .ok (.aload_n 0, 1) := by decide +kernel
theorem dX9_share_29 : decode cX9_share 29 = .ok (.sipush 4001, 3) := by decide +kernel
theorem dX9_share_32 : decode cX9_share 32 = .ok (.putfield 31, 3) := by decide +kernel
theorem dX9_share_35 : decode cX9_share 35 = .ok (.aload_n 0, 1) := by decide +kernel
theorem dX9_share_36 : decode cX9_share 36 = .ok (.iconst 0, 1) := by decide +kernel
theorem dX9_share_37 : decode cX9_share 37 = .ok (.iconst 0, 1) := by decide +kernel
theorem dX9_share_38 : decode cX9_share 38 = .ok (.invokestatic 38, 3) := by decide +kernel
theorem dX9_share_41 : decode cX9_share 41 = .ok (.aload_n 0, 1) := by decide +kernel
theorem dX9_share_42 : decode cX9_share 42 = .ok (.iconst 1, 1) := by decide +kernel
theorem dX9_share_43 : decode cX9_share 43 = .ok (.putfield 34, 3) := by decide +kernel
theorem dX9_share_46 : decode cX9_share 46 = .ok (.return_, 1) := by decide +kernel
theorem dX9_shareFrom_0 : decode cX9_shareFrom 0 = .ok (.iload_n 2, 1) := by decide +kernel
theorem dX9_shareFrom_1 : decode cX9_shareFrom 1 = .ok (.aload_n 0, 1) := by decide +kernel
theorem dX9_shareFrom_2 : decode cX9_shareFrom 2 = .ok (.getfield 31, 3) := by decide +kernel
theorem dX9_shareFrom_5 : decode cX9_shareFrom 5 = .ok (.if_icmp .lt 4, 3) := by decide +kernel
theorem dX9_shareFrom_8 : decode cX9_shareFrom 8 = .ok (.return_, 1) := by decide +kernel
theorem dX9_shareFrom_9 : decode cX9_shareFrom 9 = .ok (.iload_n 1, 1) := by decide +kernel
theorem dX9_shareFrom_10 : decode cX9_shareFrom 10 = .ok (.aload_n 0, 1) := by decide +kernel
theorem dX9_shareFrom_11 : decode cX9_shareFrom 11 = .ok (.getfield 27, 3) := by decide +kernel
theorem dX9_shareFrom_14 : decode cX9_shareFrom 14 = .ok (.if_icmp .ge 9, 3) := by decide +kernel
theorem dX9_shareFrom_17 : decode cX9_shareFrom 17 = .ok (.iload_n 1, 1) := by decide +kernel
theorem dX9_shareFrom_18 : decode cX9_shareFrom 18 = .ok (.bipush 8, 2) := by decide +kernel
theorem dX9_shareFrom_20 : decode cX9_shareFrom 20 = .ok (.if_icmp .lt 9, 3) := by decide +kernel
theorem dX9_shareFrom_23 : decode cX9_shareFrom 23 = .ok (.aload_n 0, 1) := by decide +kernel
theorem dX9_shareFrom_24 : decode cX9_shareFrom 24 = .ok (.iload_n 2, 1) := by decide +kernel
theorem dX9_shareFrom_25 : decode cX9_shareFrom 25 = .ok (.invokevirtual 42, 3) := by decide +kernel
theorem dX9_shareFrom_28 : decode cX9_shareFrom 28 = .ok (.return_, 1) := by decide +kernel
theorem dX9_shareFrom_29 : decode cX9_shareFrom 29 = .ok (.iconst 0, 1) := by decide +kernel
theorem dX9_shareFrom_30 : decode cX9_shareFrom 30 = .ok (.istore_n 3, 1) := by decide +kernel
theorem dX9_shareFrom_31 : decode cX9_shareFrom 31 = .ok (.iload_n 3, 1) := by decide +kernel
theorem dX9_shareFrom_32 : decode cX9_shareFrom 32 = .ok (.iconst 3, 1) := by decide +kernel
theorem dX9_shareFrom_33 : decode cX9_shareFrom 33 = .ok (.if_icmp .ge 63, 3) := by decide +kernel
theorem dX9_shareFrom_36 : decode cX9_shareFrom 36 = .ok (.aload_n 0, 1) := by decide +kernel
theorem dX9_shareFrom_37 : decode cX9_shareFrom 37 = .ok (.iload_n 1, 1) := by decide +kernel
theorem dX9_shareFrom_38 : decode cX9_shareFrom 38 = .ok (.iload_n 3, 1) := by decide +kernel
theorem dX9_shareFrom_39 : decode cX9_shareFrom 39 = .ok (.invokevirtual 46, 3) := by decide +kernel
theorem dX9_shareFrom_42 : decode cX9_shareFrom 42 = .ok (.istore 4, 2) := by decide +kernel
theorem dX9_shareFrom_44 : decode cX9_shareFrom 44 = .ok (.aload_n 0, 1) := by decide +kernel
theorem dX9_shareFrom_45 : decode cX9_shareFrom 45 = .ok (.getfield 18, 3) := by decide +kernel
theorem dX9_shareFrom_48 : decode cX9_shareFrom 48 = .ok (.iload_n 1, 1) := by decide +kernel
theorem dX9_shareFrom_49 : decode cX9_shareFrom 49 = .ok (.iload_n 3, 1) := by decide +kernel
theorem dX9_shareFrom_50 : decode cX9_shareFrom 50 = .ok (.iastore, 1) := by decide +kernel
theorem dX9_shareFrom_51 : decode cX9_shareFrom 51 = .ok (.aload_n 0, 1) := by decide +kernel
theorem dX9_shareFrom_52 : decode cX9_shareFrom 52 = .ok (.getfield 24, 3) := by decide +kernel
theorem dX9_shareFrom_55 : decode cX9_shareFrom 55 = .ok (.iload_n 3, 1) := by decide +kernel
theorem dX9_shareFrom_56 : decode cX9_shareFrom 56 = .ok (.dup2, 1) := by decide +kernel
theorem dX9_shareFrom_57 : decode cX9_shareFrom 57 = .ok (.iaload, 1) := by decide +kernel
theorem dX9_shareFrom_58 : decode cX9_shareFrom 58 = .ok (.iload 4, 2) := by decide +kernel
theorem dX9_shareFrom_60 : decode cX9_shareFrom 60 = .ok (.iadd, 1) := by decide +kernel
theorem dX9_shareFrom_61 : decode cX9_shareFrom 61 = .ok (.iastore, 1) := by decide +kernel
theorem dX9_shareFrom_62 : decode cX9_shareFrom 62 = .ok (.aload_n 0, 1) := by decide +kernel
theorem dX9_shareFrom_63 : decode cX9_shareFrom 63 = .ok (.iload_n 1, 1) := by decide +kernel
theorem dX9_shareFrom_64 : decode cX9_shareFrom 64 = .ok (.iconst 1, 1) := by decide +kernel
theorem dX9_shareFrom_65 : decode cX9_shareFrom 65 = .ok (.iadd, 1) := by decide +kernel
theorem dX9_shareFrom_66 : decode cX9_shareFrom 66 = .ok (.iload_n 2, 1) := by decide +kernel
theorem dX9_shareFrom_67 : decode cX9_shareFrom 67 = .ok (.aload_n 0, 1) := by decide +kernel
theorem dX9_shareFrom_68 : decode cX9_shareFrom 68 = .ok (.getfield 24, 3) := by decide +kernel
theorem dX9_shareFrom_71 : decode cX9_shareFrom 71 = .ok (.iload_n 3, 1) := by decide +kernel
theorem dX9_shareFrom_72 : decode cX9_shareFrom 72 = .ok (.iaload, 1) := by decide +kernel
theorem dX9_shareFrom_73 : decode cX9_shareFrom 73 = .ok (.invokestatic 50, 3) := by decide +kernel
theorem dX9_shareFrom_76 : decode cX9_shareFrom 76 = .ok (.invokestatic 38, 3) := by decide +kernel
theorem dX9_shareFrom_79 : decode cX9_shareFrom 79 = .ok (.aload_n 0, 1) := by decide +kernel
theorem dX9_shareFrom_80 : decode cX9_shareFrom 80 = .ok (.getfield 24, 3) := by decide +kernel
theorem dX9_shareFrom_83 : decode cX9_shareFrom 83 = .ok (.iload_n 3, 1) := by decide +kernel
theorem dX9_shareFrom_84 : decode cX9_shareFrom 84 = .ok (.dup2, 1) := by decide +kernel
theorem dX9_shareFrom_85 : decode cX9_shareFrom 85 = .ok (.iaload, 1) := by decide +kernel
theorem dX9_shareFrom_86 : decode cX9_shareFrom 86 = .ok (.iload 4, 2) := by decide +kernel
theorem dX9_shareFrom_88 : decode cX9_shareFrom 88 = .ok (.isub, 1) := by decide +kernel
theorem dX9_shareFrom_89 : decode cX9_shareFrom 89 = .ok (.iastore, 1) := by decide +kernel
theorem dX9_shareFrom_90 : decode cX9_shareFrom 90 = .ok (.iinc 3 1, 3) := by decide +kernel
theorem dX9_shareFrom_93 : decode cX9_shareFrom 93 = .ok (.goto (-62), 3) := by decide +kernel
theorem dX9_shareFrom_96 : decode cX9_shareFrom 96 = .ok (.return_, 1) := by decide +kernel
theorem dX9_keepTrial_0 : decode cX9_keepTrial 0 = .ok (.aload_n 0, 1) := by decide +kernel
theorem dX9_keepTrial_1 : decode cX9_keepTrial 1 = .ok (.iload_n 1, 1) := by decide +kernel
theorem dX9_keepTrial_2 : decode cX9_keepTrial 2 = .ok (.putfield 31, 3) := by decide +kernel
theorem dX9_keepTrial_5 : decode cX9_keepTrial 5 = .ok (.iconst 0, 1) := by decide +kernel
theorem dX9_keepTrial_6 : decode cX9_keepTrial 6 = .ok (.istore_n 2, 1) := by decide +kernel
theorem dX9_keepTrial_7 : decode cX9_keepTrial 7 = .ok (.iload_n 2, 1) := by decide +kernel
theorem dX9_keepTrial_8 : decode cX9_keepTrial 8 = .ok (.aload_n 0, 1) := by decide +kernel
theorem dX9_keepTrial_9 : decode cX9_keepTrial 9 = .ok (.getfield 27, 3) := by decide +kernel
theorem dX9_keepTrial_12 : decode cX9_keepTrial 12 = .ok (.if_icmp .ge 21, 3) := by decide +kernel
theorem dX9_keepTrial_15 : decode cX9_keepTrial 15 = .ok (.aload_n 0, 1) := by decide +kernel
theorem dX9_keepTrial_16 : decode cX9_keepTrial 16 = .ok (.getfield 21, 3) := by decide +kernel
theorem dX9_keepTrial_19 : decode cX9_keepTrial 19 = .ok (.iload_n 2, 1) := by decide +kernel
theorem dX9_keepTrial_20 : decode cX9_keepTrial 20 = .ok (.aload_n 0, 1) := by decide +kernel
theorem dX9_keepTrial_21 : decode cX9_keepTrial 21 = .ok (.getfield 18, 3) := by decide +kernel
theorem dX9_keepTrial_24 : decode cX9_keepTrial 24 = .ok (.iload_n 2, 1) := by decide +kernel
theorem dX9_keepTrial_25 : decode cX9_keepTrial 25 = .ok (.iaload, 1) := by decide +kernel
theorem dX9_keepTrial_26 : decode cX9_keepTrial 26 = .ok (.iastore, 1) := by decide +kernel
theorem dX9_keepTrial_27 : decode cX9_keepTrial 27 = .ok (.iinc 2 1, 3) := by decide +kernel
theorem dX9_keepTrial_30 : decode cX9_keepTrial 30 = .ok (.goto (-23), 3) := by decide +kernel
theorem dX9_keepTrial_33 : decode cX9_keepTrial 33 = .ok (.return_, 1) := by decide +kernel
theorem dX9_daysFor_0 : decode cX9_daysFor 0 = .ok (.iconst 1, 1) := by decide +kernel
theorem dX9_daysFor_1 : decode cX9_daysFor 1 = .ok (.aload_n 0, 1) := by decide +kernel
theorem dX9_daysFor_2 : decode cX9_daysFor 2 = .ok (.getfield 9, 3) := by decide +kernel
theorem dX9_daysFor_5 : decode cX9_daysFor 5 = .ok (.iload_n 2, 1) := by decide +kernel
theorem dX9_daysFor_6 : decode cX9_daysFor 6 = .ok (.iaload, 1) := by decide +kernel
theorem dX9_daysFor_7 : decode cX9_daysFor 7 = .ok (.invokestatic 50, 3) := by decide +kernel
theorem dX9_daysFor_10 : decode cX9_daysFor 10 = .ok (.istore_n 3, 1) := by decide +kernel
theorem dX9_daysFor_11 : decode cX9_daysFor 11 = .ok (.aload_n 0, 1) := by decide +kernel
theorem dX9_daysFor_12 : decode cX9_daysFor 12 = .ok (.getfield 15, 3) := by decide +kernel
theorem dX9_daysFor_15 : decode cX9_daysFor 15 = .ok (.iload_n 1, 1) := by decide +kernel
theorem dX9_daysFor_16 : decode cX9_daysFor 16 = .ok (.iaload, 1) := by decide +kernel
theorem dX9_daysFor_17 : decode cX9_daysFor 17 = .ok (.iload_n 3, 1) := by decide +kernel
theorem dX9_daysFor_18 : decode cX9_daysFor 18 = .ok (.iadd, 1) := by decide +kernel
theorem dX9_daysFor_19 : decode cX9_daysFor 19 = .ok (.iconst 1, 1) := by decide +kernel
theorem dX9_daysFor_20 : decode cX9_daysFor 20 = .ok (.isub, 1) := by decide +kernel
theorem dX9_daysFor_21 : decode cX9_daysFor 21 = .ok (.iload_n 3, 1) := by decide +kernel
theorem dX9_daysFor_22 : decode cX9_daysFor 22 = .ok (.idiv, 1) := by decide +kernel
theorem dX9_daysFor_23 : decode cX9_daysFor 23 = .ok (.ireturn, 1) := by decide +kernel
theorem dJ6_numberOfTrailingZeros_0f7a4_0 : decode cJ6_numberOfTrailingZeros_0f7a4 0 = .ok (.iload_n 0, 1) := by decide +kernel
theorem dJ6_numberOfTrailingZeros_0f7a4_1 : decode cJ6_numberOfTrailingZeros_0f7a4 1 = .ok (.iconst (-1), 1) := by decide +kernel
theorem dJ6_numberOfTrailingZeros_0f7a4_2 : decode cJ6_numberOfTrailingZeros_0f7a4 2 = .ok (.ixor, 1) := by decide +kernel
theorem dJ6_numberOfTrailingZeros_0f7a4_3 : decode cJ6_numberOfTrailingZeros_0f7a4 3 = .ok (.iload_n 0, 1) := by decide +kernel
theorem dJ6_numberOfTrailingZeros_0f7a4_4 : decode cJ6_numberOfTrailingZeros_0f7a4 4 = .ok (.iconst 1, 1) := by decide +kernel
theorem dJ6_numberOfTrailingZeros_0f7a4_5 : decode cJ6_numberOfTrailingZeros_0f7a4 5 = .ok (.isub, 1) := by decide +kernel
theorem dJ6_numberOfTrailingZeros_0f7a4_6 : decode cJ6_numberOfTrailingZeros_0f7a4 6 = .ok (.iand, 1) := by decide +kernel
theorem dJ6_numberOfTrailingZeros_0f7a4_7 : decode cJ6_numberOfTrailingZeros_0f7a4 7 = .ok (.istore_n 0, 1) := by decide +kernel
theorem dJ6_numberOfTrailingZeros_0f7a4_8 : decode cJ6_numberOfTrailingZeros_0f7a4 8 = .ok (.iload_n 0, 1) := by decide +kernel
theorem dJ6_numberOfTrailingZeros_0f7a4_9 : decode cJ6_numberOfTrailingZeros_0f7a4 9 = .ok (.ifCond .gt 8, 3) := by decide +kernel
theorem dJ6_numberOfTrailingZeros_0f7a4_12 : decode cJ6_numberOfTrailingZeros_0f7a4 12 = .ok (.iload_n 0, 1) := by decide +kernel
theorem dJ6_numberOfTrailingZeros_0f7a4_13 : decode cJ6_numberOfTrailingZeros_0f7a4 13 = .ok (.bipush 32, 2) := by decide +kernel
theorem dJ6_numberOfTrailingZeros_0f7a4_15 : decode cJ6_numberOfTrailingZeros_0f7a4 15 = .ok (.iand, 1) := by decide +kernel
theorem dJ6_numberOfTrailingZeros_0f7a4_16 : decode cJ6_numberOfTrailingZeros_0f7a4 16 = .ok (.ireturn, 1) := by decide +kernel
theorem dJ6_numberOfTrailingZeros_0f7a4_17 : decode cJ6_numberOfTrailingZeros_0f7a4 17 = .ok (.iconst 1, 1) := by decide +kernel
theorem dJ6_numberOfTrailingZeros_0f7a4_18 : decode cJ6_numberOfTrailingZeros_0f7a4 18 = .ok (.istore_n 1, 1) := by decide +kernel
theorem dJ6_numberOfTrailingZeros_0f7a4_19 : decode cJ6_numberOfTrailingZeros_0f7a4 19 = .ok (.iload_n 0, 1) := by decide +kernel
theorem dJ6_numberOfTrailingZeros_0f7a4_20 : decode cJ6_numberOfTrailingZeros_0f7a4 20 = .ok (.ldc_w 264, 3) := by decide +kernel
theorem dJ6_numberOfTrailingZeros_0f7a4_23 : decode cJ6_numberOfTrailingZeros_0f7a4 23 = .ok (.if_icmp .le 11, 3) := by decide +kernel
theorem dJ6_numberOfTrailingZeros_0f7a4_26 : decode cJ6_numberOfTrailingZeros_0f7a4 26 = .ok (.iinc 1 16, 3) := by decide +kernel
theorem dJ6_numberOfTrailingZeros_0f7a4_29 : decode cJ6_numberOfTrailingZeros_0f7a4 29 = .ok (.iload_n 0, 1) := by decide +kernel
theorem dJ6_numberOfTrailingZeros_0f7a4_30 : decode cJ6_numberOfTrailingZeros_0f7a4 30 = .ok (.bipush 16, 2) := by decide +kernel
theorem dJ6_numberOfTrailingZeros_0f7a4_32 : decode cJ6_numberOfTrailingZeros_0f7a4 32 = .ok (.iushr, 1) := by decide +kernel
theorem dJ6_numberOfTrailingZeros_0f7a4_33 : decode cJ6_numberOfTrailingZeros_0f7a4 33 = .ok (.istore_n 0, 1) := by decide +kernel
theorem dJ6_numberOfTrailingZeros_0f7a4_34 : decode cJ6_numberOfTrailingZeros_0f7a4 34 = .ok (.iload_n 0, 1) := by decide +kernel
theorem dJ6_numberOfTrailingZeros_0f7a4_35 : decode cJ6_numberOfTrailingZeros_0f7a4 35 = .ok (.sipush 256, 3) := by decide +kernel
theorem dJ6_numberOfTrailingZeros_0f7a4_38 : decode cJ6_numberOfTrailingZeros_0f7a4 38 = .ok (.if_icmp .le 11, 3) := by decide +kernel
theorem dJ6_numberOfTrailingZeros_0f7a4_41 : decode cJ6_numberOfTrailingZeros_0f7a4 41 = .ok (.iinc 1 8, 3) := by decide +kernel
theorem dJ6_numberOfTrailingZeros_0f7a4_44 : decode cJ6_numberOfTrailingZeros_0f7a4 44 = .ok (.iload_n 0, 1) := by decide +kernel
theorem dJ6_numberOfTrailingZeros_0f7a4_45 : decode cJ6_numberOfTrailingZeros_0f7a4 45 = .ok (.bipush 8, 2) := by decide +kernel
theorem dJ6_numberOfTrailingZeros_0f7a4_47 : decode cJ6_numberOfTrailingZeros_0f7a4 47 = .ok (.iushr, 1) := by decide +kernel
theorem dJ6_numberOfTrailingZeros_0f7a4_48 : decode cJ6_numberOfTrailingZeros_0f7a4 48 = .ok (.istore_n 0, 1) := by decide +kernel
theorem dJ6_numberOfTrailingZeros_0f7a4_49 : decode cJ6_numberOfTrailingZeros_0f7a4 49 = .ok (.iload_n 0, 1) := by decide +kernel
theorem dJ6_numberOfTrailingZeros_0f7a4_50 : decode cJ6_numberOfTrailingZeros_0f7a4 50 = .ok (.bipush 16, 2) := by decide +kernel
theorem dJ6_numberOfTrailingZeros_0f7a4_52 : decode cJ6_numberOfTrailingZeros_0f7a4 52 = .ok (.if_icmp .le 10, 3) := by decide +kernel
theorem dJ6_numberOfTrailingZeros_0f7a4_55 : decode cJ6_numberOfTrailingZeros_0f7a4 55 = .ok (.iinc 1 4, 3) := by decide +kernel
theorem dJ6_numberOfTrailingZeros_0f7a4_58 : decode cJ6_numberOfTrailingZeros_0f7a4 58 = .ok (.iload_n 0, 1) := by decide +kernel
theorem dJ6_numberOfTrailingZeros_0f7a4_59 : decode cJ6_numberOfTrailingZeros_0f7a4 59 = .ok (.iconst 4, 1) := by decide +kernel
theorem dJ6_numberOfTrailingZeros_0f7a4_60 : decode cJ6_numberOfTrailingZeros_0f7a4 60 = .ok (.iushr, 1) := by decide +kernel
theorem dJ6_numberOfTrailingZeros_0f7a4_61 : decode cJ6_numberOfTrailingZeros_0f7a4 61 = .ok (.istore_n 0, 1) := by decide +kernel
theorem dJ6_numberOfTrailingZeros_0f7a4_62 : decode cJ6_numberOfTrailingZeros_0f7a4 62 = .ok (.iload_n 0, 1) := by decide +kernel
theorem dJ6_numberOfTrailingZeros_0f7a4_63 : decode cJ6_numberOfTrailingZeros_0f7a4 63 = .ok (.iconst 4, 1) := by decide +kernel
theorem dJ6_numberOfTrailingZeros_0f7a4_64 : decode cJ6_numberOfTrailingZeros_0f7a4 64 = .ok (.if_icmp .le 10, 3) := by decide +kernel
theorem dJ6_numberOfTrailingZeros_0f7a4_67 : decode cJ6_numberOfTrailingZeros_0f7a4 67 = .ok (.iinc 1 2, 3) := by decide +kernel
theorem dJ6_numberOfTrailingZeros_0f7a4_70 : decode cJ6_numberOfTrailingZeros_0f7a4 70 = .ok (.iload_n 0, 1) := by decide +kernel
theorem dJ6_numberOfTrailingZeros_0f7a4_71 : decode cJ6_numberOfTrailingZeros_0f7a4 71 = .ok (.iconst 2, 1) := by decide +kernel
theorem dJ6_numberOfTrailingZeros_0f7a4_72 : decode cJ6_numberOfTrailingZeros_0f7a4 72 = .ok (.iushr, 1) := by decide +kernel
theorem dJ6_numberOfTrailingZeros_0f7a4_73 : decode cJ6_numberOfTrailingZeros_0f7a4 73 = .ok (.istore_n 0, 1) := by decide +kernel
theorem dJ6_numberOfTrailingZeros_0f7a4_74 : decode cJ6_numberOfTrailingZeros_0f7a4 74 = .ok (.iload_n 1, 1) := by decide +kernel
theorem dJ6_numberOfTrailingZeros_0f7a4_75 : decode cJ6_numberOfTrailingZeros_0f7a4 75 = .ok (.iload_n 0, 1) := by decide +kernel
theorem dJ6_numberOfTrailingZeros_0f7a4_76 : decode cJ6_numberOfTrailingZeros_0f7a4 76 = .ok (.iconst 1, 1) := by decide +kernel
theorem dJ6_numberOfTrailingZeros_0f7a4_77 : decode cJ6_numberOfTrailingZeros_0f7a4 77 = .ok (.iushr, 1) := by decide +kernel
theorem dJ6_numberOfTrailingZeros_0f7a4_78 : decode cJ6_numberOfTrailingZeros_0f7a4 78 = .ok (.iadd, 1) := by decide +kernel
theorem dJ6_numberOfTrailingZeros_0f7a4_79 : decode cJ6_numberOfTrailingZeros_0f7a4 79 = .ok (.ireturn, 1) := by decide +kernel
