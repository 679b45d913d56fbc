theorem dX0_init_0 : decode cX0_init 0 = .ok (.aload_n 0, 1) := by decide +kernel
theorem dX0_init_1 : decode cX0_init 1 = .ok (.invokespecial 3, 3) := by decide +kernel
theorem dX0_init_4 : decode cX0_init 4 = .ok (.return_, 1) := by decide +kernel
theorem dX0_passes_0 : decode cX0_passes 0 = .ok (.aload_n 0, 1) := by decide +kernel
theorem dX0_passes_1 : decode cX0_passes 1 = .ok (.iload_n 2, 1) := by decide +kernel
theorem dX0_passes_2 : decode cX0_passes 2 = .ok (.putfield 9, 3) := by decide +kernel
theorem dX0_passes_5 : decode cX0_passes 5 = .ok (.aload_n 0, 1) := by decide +kernel
theorem dX0_passes_6 : decode cX0_passes 6 = .ok (.iconst (-1), 1) := by decide +kernel
theorem dX0_passes_7 : decode cX0_passes 7 = .ok (.putfield 15, 3) := by decide +kernel
theorem dX0_passes_10 : decode cX0_passes 10 = .ok (.aload_n 0, 1) := by decide +kernel
theorem dX0_passes_11 : decode cX0_passes 11 = .ok (.iconst 0, 1) := by decide +kernel
theorem dX0_passes_12 : decode cX0_passes 12 = .ok (.putfield 18, 3) := by decide +kernel
theorem dX0_passes_15 : decode cX0_passes 15 = .ok (.aload_n 0, 1) := by decide +kernel
theorem dX0_passes_16 : decode cX0_passes 16 = .ok (.aload_n 1, 1) := by decide +kernel
theorem dX0_passes_17 : decode cX0_passes 17 = .ok (.getfield 21, 3) := by decide +kernel
theorem dX0_passes_20 : decode cX0_passes 20 = .ok (.iconst 0, 1) := by decide +kernel
theorem dX0_passes_21 : decode cX0_passes 21 = .ok (.iaload, 1) := by decide +kernel
theorem dX0_passes_22 : decode cX0_passes 22 = .ok (.putfield 27, 3) := by decide +kernel
theorem dX0_passes_25 : decode cX0_passes 25 = .ok (.iconst 0, 1) := by decide +kernel
theorem dX0_passes_26 : decode cX0_passes 26 = .ok (.istore 4, 2) := by decide +kernel
theorem dX0_passes_28 : decode cX0_passes 28 = .ok (.iload 4, 2) := by decide +kernel
theorem dX0_passes_30 : decode cX0_passes 30 = .ok (.aload_n 1, 1) := by decide +kernel
theorem dX0_passes_31 : decode cX0_passes 31 = .ok (.getfield 30, 3) := by decide +kernel
theorem dX0_passes_34 : decode cX0_passes 34 = .ok (.if_icmp .ge 24, 3) := by decide +kernel
theorem dX0_passes_37 : decode cX0_passes 37 = .ok (.aload_n 0, 1) := by decide +kernel
theorem dX0_passes_38 : decode cX0_passes 38 = .ok (.getfield 15, 3) := by decide +kernel
theorem dX0_passes_41 : decode cX0_passes 41 = .ok (.iconst (-1), 1) := by decide +kernel
theorem dX0_passes_42 : decode cX0_passes 42 = .ok (.if_icmp .ne 16, 3) := by decide +kernel
theorem dX0_passes_45 : decode cX0_passes 45 = .ok (.aload_n 0, 1) := by decide +kernel
theorem dX0_passes_46 : decode cX0_passes 46 = .ok (.aload_n 1, 1) := by decide +kernel
theorem dX0_passes_47 : decode cX0_passes 47 = .ok (.iload 4, 2) := by decide +kernel
theorem dX0_passes_49 : decode cX0_passes 49 = .ok (.invokevirtual 33, 3) := by decide +kernel
theorem dX0_passes_52 : decode cX0_passes 52 = .ok (.iinc 4 1, 3) := by decide +kernel
theorem dX0_passes_55 : decode cX0_passes 55 = .ok (.goto (-27), 3) := by decide +kernel
theorem dX0_passes_58 : decode cX0_passes 58 = .ok (.aload_n 3, 1) := by decide +kernel
theorem dX0_passes_59 : decode cX0_passes 59 = .ok (.invokevirtual 37, 3) := by decide +kernel
theorem dX0_passes_62 : decode cX0_passes 62 = .ok (.aload_n 3, 1) := by decide +kernel
theorem dX0_passes_63 : decode cX0_passes 63 = .ok (.aload_n 1, 1) := by decide +kernel
theorem dX0_passes_64 : decode cX0_passes 64 = .ok (.invokevirtual 42, 3) := by decide +kernel
theorem dX0_passes_67 : decode cX0_passes 67 = .ok (.istore 4, 2) := by decide +kernel
theorem dX0_passes_69 : decode cX0_passes 69 = .ok (.iconst 0, 1) := by decide +kernel
theorem dX0_passes_70 : decode cX0_passes 70 = .ok (.istore 5, 2) := by decide +kernel
theorem dX0_passes_72 : decode cX0_passes 72 = .ok (.iload 5, 2) := by decide +kernel
theorem dX0_passes_74 : decode cX0_passes 74 = .ok (.aload_n 1, 1) := by decide +kernel
theorem dX0_passes_75 : decode cX0_passes 75 = .ok (.getfield 46, 3) := by decide +kernel
theorem dX0_passes_78 : decode cX0_passes 78 = .ok (.if_icmp .ge 42, 3) := by decide +kernel
theorem dX0_passes_81 : decode cX0_passes 81 = .ok (.iload 4, 2) := by decide +kernel
theorem dX0_passes_83 : decode cX0_passes 83 = .ok (.ifCond .le 37, 3) := by decide +kernel
theorem dX0_passes_86 : decode cX0_passes 86 = .ok (.aload_n 1, 1) := by decide +kernel
theorem dX0_passes_87 : decode cX0_passes 87 = .ok (.aload_n 0, 1) := by decide +kernel
theorem dX0_passes_88 : decode cX0_passes 88 = .ok (.iload 4, 2) := by decide +kernel
theorem dX0_passes_90 : decode cX0_passes 90 = .ok (.invokevirtual 49, 3) := by decide +kernel
theorem dX0_passes_93 : decode cX0_passes 93 = .ok (.invokestatic 53, 3) := by decide +kernel
theorem dX0_passes_96 : decode cX0_passes 96 = .ok (.istore 6, 2) := by decide +kernel
theorem dX0_passes_98 : decode cX0_passes 98 = .ok (.aload_n 3, 1) := by decide +kernel
theorem dX0_passes_99 : decode cX0_passes 99 = .ok (.aload_n 3, 1) := by decide +kernel
theorem dX0_passes_100 : decode cX0_passes 100 = .ok (.aload_n 1, 1) := by decide +kernel
theorem dX0_passes_101 : decode cX0_passes 101 = .ok (.aload_n 0, 1) := by decide +kernel
theorem dX0_passes_102 : decode cX0_passes 102 = .ok (.getfield 15, 3) := by decide +kernel
theorem dX0_passes_105 : decode cX0_passes 105 = .ok (.iload 6, 2) := by decide +kernel
theorem dX0_passes_107 : decode cX0_passes 107 = .ok (.invokevirtual 57, 3) := by decide +kernel
theorem dX0_passes_110 : decode cX0_passes 110 = .ok (.iconst 1, 1) := by decide +kernel
theorem dX0_passes_111 : decode cX0_passes 111 = .ok (.invokevirtual 61, 3) := by decide +kernel
theorem dX0_passes_114 : decode cX0_passes 114 = .ok (.iinc 5 1, 3) := by decide +kernel
theorem dX0_passes_117 : decode cX0_passes 117 = .ok (.goto (-45), 3) := by decide +kernel
theorem dX0_passes_120 : decode cX0_passes 120 = .ok (.return_, 1) := by decide +kernel
theorem dX0_below_0 : decode cX0_below 0 = .ok (.aload_n 0, 1) := by decide +kernel
theorem dX0_below_1 : decode cX0_below 1 = .ok (.aload_n 0, 1) := by decide +kernel
theorem dX0_below_2 : decode cX0_below 2 = .ok (.getfield 9, 3) := by decide +kernel
theorem dX0_below_5 : decode cX0_below 5 = .ok (.ldc 65, 2) := by decide +kernel
theorem dX0_below_7 : decode cX0_below 7 = .ok (.imul, 1) := by decide +kernel
theorem dX0_below_8 : decode cX0_below 8 = .ok (.sipush 12345, 3) := by decide +kernel
theorem dX0_below_11 : decode cX0_below 11 = .ok (.iadd, 1) := by decide +kernel
theorem dX0_below_12 : decode cX0_below 12 = .ok (.putfield 9, 3) := by decide +kernel
theorem dX0_below_15 : decode cX0_below 15 = .ok (.iload_n 1, 1) := by decide +kernel
theorem dX0_below_16 : decode cX0_below 16 = .ok (.ifCond .le 15, 3) := by decide +kernel
theorem dX0_below_19 : decode cX0_below 19 = .ok (.aload_n 0, 1) := by decide +kernel
theorem dX0_below_20 : decode cX0_below 20 = .ok (.getfield 9, 3) := by decide +kernel
theorem dX0_below_23 : decode cX0_below 23 = .ok (.bipush 16, 2) := by decide +kernel
theorem dX0_below_25 : decode cX0_below 25 = .ok (.iushr, 1) := by decide +kernel
theorem dX0_below_26 : decode cX0_below 26 = .ok (.iload_n 1, 1) := by decide +kernel
theorem dX0_below_27 : decode cX0_below 27 = .ok (.irem, 1) := by decide +kernel
theorem dX0_below_28 : decode cX0_below 28 = .ok (.goto 4, 3) := by decide +kernel
theorem dX0_below_31 : decode cX0_below 31 = .ok (.iconst 0, 1) := by decide +kernel
theorem dX0_below_32 : decode cX0_below 32 = .ok (.ireturn, 1) := by decide +kernel
theorem dX0_goes_0 : decode cX0_goes 0 = .ok (.aload_n 1, 1) := by decide +kernel
theorem dX0_goes_1 : decode cX0_goes 1 = .ok (.getfield 66, 3) := by decide +kernel
theorem dX0_goes_4 : decode cX0_goes 4 = .ok (.iload_n 2, 1) := by decide +kernel
theorem dX0_goes_5 : decode cX0_goes 5 = .ok (.iaload, 1) := by decide +kernel
theorem dX0_goes_6 : decode cX0_goes 6 = .ok (.aload_n 1, 1) := by decide +kernel
theorem dX0_goes_7 : decode cX0_goes 7 = .ok (.getfield 69, 3) := by decide +kernel
theorem dX0_goes_10 : decode cX0_goes 10 = .ok (.if_icmp .lt 7, 3) := by decide +kernel
theorem dX0_goes_13 : decode cX0_goes 13 = .ok (.iconst 1, 1) := by decide +kernel
theorem dX0_goes_14 : decode cX0_goes 14 = .ok (.goto 4, 3) := by decide +kernel
theorem dX0_goes_17 : decode cX0_goes 17 = .ok (.iconst 0, 1) := by decide +kernel
theorem dX0_goes_18 : decode cX0_goes 18 = .ok (.istore_n 3, 1) := by decide +kernel
theorem dX0_goes_19 : decode cX0_goes 19 = .ok (.iconst 0, 1) := by decide +kernel
theorem dX0_goes_20 : decode cX0_goes 20 = .ok (.istore 4, 2) := by decide +kernel
theorem dX0_goes_22 : decode cX0_goes 22 = .ok (.iload 4, 2) := by decide +kernel
theorem dX0_goes_24 : decode cX0_goes 24 = .ok (.aload_n 1, 1) := by decide +kernel
theorem dX0_goes_25 : decode cX0_goes 25 = .ok (.getfield 72, 3) := by decide +kernel
theorem dX0_goes_28 : decode cX0_goes 28 = .ok (.if_icmp .ge 86, 3) := by decide +kernel
theorem dX0_goes_31 : decode cX0_goes 31 = .ok (.aload_n 0, 1) := by decide +kernel
theorem dX0_goes_32 : decode cX0_goes 32 = .ok (.getfield 15, 3) := by decide +kernel
theorem dX0_goes_35 : decode cX0_goes 35 = .ok (.iconst (-1), 1) := by decide +kernel
theorem dX0_goes_36 : decode cX0_goes 36 = .ok (.if_icmp .ne 78, 3) := by decide +kernel
theorem dX0_goes_39 : decode cX0_goes 39 = .ok (.aload_n 0, 1) := by decide +kernel
theorem dX0_goes_40 : decode cX0_goes 40 = .ok (.dup, 1) := by decide +kernel
theorem dX0_goes_41 : decode cX0_goes 41 = .ok (.getfield 18, 3) := by decide +kernel
theorem dX0_goes_44 : decode cX0_goes 44 = .ok (.iconst 1, 1) := by decide +kernel
theorem dX0_goes_45 : decode cX0_goes 45 = .ok (.iadd, 1) := by decide +kernel
theorem dX0_goes_46 : decode cX0_goes 46 = .ok (.putfield 18, 3) := by decide +kernel
theorem dX0_goes_49 : decode cX0_goes 49 = .ok (.aload_n 0, 1) := by decide +kernel
theorem dX0_goes_50 : decode cX0_goes 50 = .ok (.bipush 10, 2) := by decide +kernel
theorem dX0_goes_52 : decode cX0_goes 52 = .ok (.invokevirtual 49, 3) := by decide +kernel
theorem dX0_goes_55 : decode cX0_goes 55 = .ok (.aload_n 1, 1) := by decide +kernel
theorem dX0_goes_56 : decode cX0_goes 56 = .ok (.getfield 75, 3) := by decide +kernel
theorem dX0_goes_59 : decode cX0_goes 59 = .ok (.iload_n 2, 1) := by decide +kernel
theorem dX0_goes_60 : decode cX0_goes 60 = .ok (.iaload, 1) := by decide +kernel
theorem dX0_goes_61 : decode cX0_goes 61 = .ok (.if_icmp .ge 35, 3) := by decide +kernel
theorem dX0_goes_64 : decode cX0_goes 64 = .ok (.aload_n 0, 1) := by decide +kernel
theorem dX0_goes_65 : decode cX0_goes 65 = .ok (.iload_n 3, 1) := by decide +kernel
theorem dX0_goes_66 : decode cX0_goes 66 = .ok (.ifCond .eq 10, 3) := by decide +kernel
theorem dX0_goes_69 : decode cX0_goes 69 = .ok (.aload_n 0, 1) := by decide +kernel
theorem dX0_goes_70 : decode cX0_goes 70 = .ok (.getfield 27, 3) := by decide +kernel
theorem dX0_goes_73 : decode cX0_goes 73 = .ok (.goto 18, 3) := by decide +kernel
theorem dX0_goes_76 : decode cX0_goes 76 = .ok (.iconst 0, 1) := by decide +kernel
theorem dX0_goes_77 : decode cX0_goes 77 = .ok (.aload_n 0, 1) := by decide +kernel
theorem dX0_goes_78 : decode cX0_goes 78 = .ok (.getfield 27, 3) := by decide +kernel
theorem dX0_goes_81 : decode cX0_goes 81 = .ok (.aload_n 1, 1) := by decide +kernel
theorem dX0_goes_82 : decode cX0_goes 82 = .ok (.getfield 78, 3) := by decide +kernel
theorem dX0_goes_85 : decode cX0_goes 85 = .ok (.iload_n 2, 1) := by decide +kernel
theorem dX0_goes_86 : decode cX0_goes 86 = .ok (.iaload, 1) := by decide +kernel
theorem dX0_goes_87 : decode cX0_goes 87 = .ok (.isub, 1) := by decide +kernel
theorem dX0_goes_88 : decode cX0_goes 88 = .ok (.invokestatic 81, 3) := by decide +kernel
theorem dX0_goes_91 : decode cX0_goes 91 = .ok (.putfield 27, 3) := by decide +kernel
theorem dX0_goes_94 : decode cX0_goes 94 = .ok (.iconst 0, 1) := by decide +kernel
theorem dX0_goes_95 : decode cX0_goes 95 = .ok (.istore_n 3, 1) := by decide +kernel
theorem dX0_goes_96 : decode cX0_goes 96 = .ok (.aload_n 0, 1) := by decide +kernel
theorem dX0_goes_97 : decode cX0_goes 97 = .ok (.getfield 27, 3) := by decide +kernel
theorem dX0_goes_100 : decode cX0_goes 100 = .ok (.ifCond .ne 8, 3) := by decide +kernel
theorem dX0_goes_103 : decode cX0_goes 103 = .ok (.aload_n 0, 1) := by decide +kernel
theorem dX0_goes_104 : decode cX0_goes 104 = .ok (.iload_n 2, 1) := by decide +kernel
theorem dX0_goes_105 : decode cX0_goes 105 = .ok (.putfield 15, 3) := by decide +kernel
theorem dX0_goes_108 : decode cX0_goes 108 = .ok (.iinc 4 1, 3) := by decide +kernel
theorem dX0_goes_111 : decode cX0_goes 111 = .ok (.goto (-89), 3) := by decide +kernel
theorem dX0_goes_114 : decode cX0_goes 114 = .ok (.return_, 1) := by decide +kernel
theorem dX0_fallsOn_0 : decode cX0_fallsOn 0 = .ok (.iconst 0, 1) := by decide +kernel
theorem dX0_fallsOn_1 : decode cX0_fallsOn 1 = .ok (.istore_n 2, 1) := by decide +kernel
theorem dX0_fallsOn_2 : decode cX0_fallsOn 2 = .ok (.iconst 0, 1) := by decide +kernel
theorem dX0_fallsOn_3 : decode cX0_fallsOn 3 = .ok (.istore_n 3, 1) := by decide +kernel
theorem dX0_fallsOn_4 : decode cX0_fallsOn 4 = .ok (.iload_n 3, 1) := by decide +kernel
theorem dX0_fallsOn_5 : decode cX0_fallsOn 5 = .ok (.bipush 25, 2) := by decide +kernel
theorem dX0_fallsOn_7 : decode cX0_fallsOn 7 = .ok (.if_icmp .ge 24, 3) := by decide +kernel
theorem dX0_fallsOn_10 : decode cX0_fallsOn 10 = .ok (.iload_n 2, 1) := by decide +kernel
theorem dX0_fallsOn_11 : decode cX0_fallsOn 11 = .ok (.aload_n 0, 1) := by decide +kernel
theorem dX0_fallsOn_12 : decode cX0_fallsOn 12 = .ok (.iload_n 3, 1) := by decide +kernel
theorem dX0_fallsOn_13 : decode cX0_fallsOn 13 = .ok (.invokevirtual 87, 3) := by decide +kernel
theorem dX0_fallsOn_16 : decode cX0_fallsOn 16 = .ok (.iadd, 1) := by decide +kernel
theorem dX0_fallsOn_17 : decode cX0_fallsOn 17 = .ok (.istore_n 2, 1) := by decide +kernel
theorem dX0_fallsOn_18 : decode cX0_fallsOn 18 = .ok (.iload_n 2, 1) := by decide +kernel
theorem dX0_fallsOn_19 : decode cX0_fallsOn 19 = .ok (.iload_n 1, 1) := by decide +kernel
theorem dX0_fallsOn_20 : decode cX0_fallsOn 20 = .ok (.if_icmp .le 5, 3) := by decide +kernel
theorem dX0_fallsOn_23 : decode cX0_fallsOn 23 = .ok (.iload_n 3, 1) := by decide +kernel
theorem dX0_fallsOn_24 : decode cX0_fallsOn 24 = .ok (.ireturn, 1) := by decide +kernel
theorem dX0_fallsOn_25 : decode cX0_fallsOn 25 = .ok (.iinc 3 1, 3) := by decide +kernel
theorem dX0_fallsOn_28 : decode cX0_fallsOn 28 = .ok (.goto (-24), 3) := by decide +kernel
theorem dX0_fallsOn_31 : decode cX0_fallsOn 31 = .ok (.bipush 24, 2) := by decide +kernel
theorem dX0_fallsOn_33 : decode cX0_fallsOn 33 = .ok (.ireturn, 1) := by decide +kernel
theorem dX0_answer_0 : decode cX0_answer 0 = .ok (.iload_n 1, 1) := by decide +kernel
theorem dX0_answer_1 : decode cX0_answer 1 = .ok (.tableswitch 42 0 2 #[27, 32, 37], 27) := by decide +kernel
theorem dX0_answer_28 : decode cX0_answer 28 = .ok (.aload_n 0, 1) := by decide +kernel
theorem dX0_answer_29 : decode cX0_answer 29 = .ok (.getfield 15, 3) := by decide +kernel
theorem dX0_answer_32 : decode cX0_answer 32 = .ok (.ireturn, 1) := by decide +kernel
theorem dX0_answer_33 : decode cX0_answer 33 = .ok (.aload_n 0, 1) := by decide +kernel
theorem dX0_answer_34 : decode cX0_answer 34 = .ok (.getfield 18, 3) := by decide +kernel
theorem dX0_answer_37 : decode cX0_answer 37 = .ok (.ireturn, 1) := by decide +kernel
theorem dX0_answer_38 : decode cX0_answer 38 = .ok (.aload_n 0, 1) := by decide +kernel
theorem dX0_answer_39 : decode cX0_answer 39 = .ok (.getfield 27, 3) := by decide +kernel
theorem dX0_answer_42 : decode cX0_answer 42 = .ok (.ireturn, 1) := by decide +kernel
theorem dX0_answer_43 : decode cX0_answer 43 = .ok (.bipush (-2), 2) := by decide +kernel
theorem dX0_answer_45 : decode cX0_answer 45 = .ok (.ireturn, 1) := by decide +kernel
theorem dX1_init_0 : decode cX1_init 0 = .ok (.aload_n 0, 1) := by decide +kernel
theorem dX1_init_1 : decode cX1_init 1 = .ok (.invokespecial 3, 3) := by decide +kernel
theorem dX1_init_4 : decode cX1_init 4 = .ok (.aload_n 0, 1) := by decide +kernel
theorem dX1_init_5 : decode cX1_init 5 = .ok (.new 9, 3) := by decide +kernel
theorem dX1_init_8 : decode cX1_init 8 = .ok (.dup, 1) := by decide +kernel
theorem dX1_init_9 : decode cX1_init 9 = .ok (.bipush 8, 2) := by decide +kernel
theorem dX1_init_11 : decode cX1_init 11 = .ok (.invokespecial 11, 3) := by decide +kernel
theorem dX1_init_14 : decode cX1_init 14 = .ok (.putfield 14, 3) := by decide +kernel
theorem dX1_init_17 : decode cX1_init 17 = .ok (.aload_n 0, 1) := by decide +kernel
theorem dX1_init_18 : decode cX1_init 18 = .ok (.bipush 8, 2) := by decide +kernel
theorem dX1_init_20 : decode cX1_init 20 = .ok (.newarray .int, 2) := by decide +kernel
theorem dX1_init_22 : decode cX1_init 22 = .ok (.putfield 20, 3) := by decide +kernel
theorem dX1_init_25 : decode cX1_init 25 = .ok (.return_, 1) := by decide +kernel
theorem dX1_clear_0 : decode cX1_clear 0 = .ok (.aload_n 0, 1) := by decide +kernel
theorem dX1_clear_1 : decode cX1_clear 1 = .ok (.getfield 14, 3) := by decide +kernel
theorem dX1_clear_4 : decode cX1_clear 4 = .ok (.iconst 0, 1) := by decide +kernel
theorem dX1_clear_5 : decode cX1_clear 5 = .ok (.putfield 24, 3) := by decide +kernel
theorem dX1_clear_8 : decode cX1_clear 8 = .ok (.iconst 0, 1) := by decide +kernel
theorem dX1_clear_9 : decode cX1_clear 9 = .ok (.istore_n 1, 1) := by decide +kernel
theorem dX1_clear_10 : decode cX1_clear 10 = .ok (.iload_n 1, 1) := by decide +kernel
theorem dX1_clear_11 : decode cX1_clear 11 = .ok (.bipush 8, 2) := by decide +kernel
theorem dX1_clear_13 : decode cX1_clear 13 = .ok (.if_icmp .ge 16, 3) := by decide +kernel
theorem dX1_clear_16 : decode cX1_clear 16 = .ok (.aload_n 0, 1) := by decide +kernel
theorem dX1_clear_17 : decode cX1_clear 17 = .ok (.getfield 20, 3) := by decide +kernel
theorem dX1_clear_20 : decode cX1_clear 20 = .ok (.iload_n 1, 1) := by decide +kernel
theorem dX1_clear_21 : decode cX1_clear 21 = .ok (.iconst 5, 1) := by decide +kernel
theorem dX1_clear_22 : decode cX1_clear 22 = .ok (.iastore, 1) := by decide +kernel
theorem dX1_clear_23 : decode cX1_clear 23 = .ok (.iinc 1 1, 3) := by decide +kernel
theorem dX1_clear_26 : decode cX1_clear 26 = .ok (.goto (-16), 3) := by decide +kernel
theorem dX1_clear_29 : decode cX1_clear 29 = .ok (.return_, 1) := by decide +kernel
theorem dX1_copy_0 : decode cX1_copy 0 = .ok (.aload_n 0, 1) := by decide +kernel
theorem dX1_copy_1 : decode cX1_copy 1 = .ok (.getfield 14, 3) := by decide +kernel
theorem dX1_copy_4 : decode cX1_copy 4 = .ok (.aload_n 1, 1) := by decide +kernel
theorem dX1_copy_5 : decode cX1_copy 5 = .ok (.getfield 14, 3) := by decide +kernel
theorem dX1_copy_8 : decode cX1_copy 8 = .ok (.invokevirtual 28, 3) := by decide +kernel
theorem dX1_copy_11 : decode cX1_copy 11 = .ok (.aload_n 1, 1) := by decide +kernel
theorem dX1_copy_12 : decode cX1_copy 12 = .ok (.getfield 20, 3) := by decide +kernel
theorem dX1_copy_15 : decode cX1_copy 15 = .ok (.iconst 0, 1) := by decide +kernel
theorem dX1_copy_16 : decode cX1_copy 16 = .ok (.aload_n 0, 1) := by decide +kernel
theorem dX1_copy_17 : decode cX1_copy 17 = .ok (.getfield 20, 3) := by decide +kernel
theorem dX1_copy_20 : decode cX1_copy 20 = .ok (.iconst 0, 1) := by decide +kernel
theorem dX1_copy_21 : decode cX1_copy 21 = .ok (.bipush 8, 2) := by decide +kernel
theorem dX1_copy_23 : decode cX1_copy 23 = .ok (.invokestatic 32, 3) := by decide +kernel
theorem dX1_copy_26 : decode cX1_copy 26 = .ok (.return_, 1) := by decide +kernel
theorem dX2_init_0 : decode cX2_init 0 = .ok (.aload_n 0, 1) := by decide +kernel
theorem dX2_init_1 : decode cX2_init 1 = .ok (.invokespecial 3, 3) := by decide +kernel
theorem dX2_init_4 : decode cX2_init 4 = .ok (.aload_n 0, 1) := by decide +kernel
theorem dX2_init_5 : decode cX2_init 5 = .ok (.bipush 8, 2) := by decide +kernel
theorem dX2_init_7 : decode cX2_init 7 = .ok (.newarray .long, 2) := by decide +kernel
theorem dX2_init_9 : decode cX2_init 9 = .ok (.putfield 9, 3) := by decide +kernel
theorem dX2_init_12 : decode cX2_init 12 = .ok (.return_, 1) := by decide +kernel
theorem dX2_weighs_0 : decode cX2_weighs 0 = .ok (.aload_n 0, 1) := by decide +kernel
theorem dX2_weighs_1 : decode cX2_weighs 1 = .ok (.lconst 0, 1) := by decide +kernel
theorem dX2_weighs_2 : decode cX2_weighs 2 = .ok (.putfield 15, 3) := by decide +kernel
theorem dX2_weighs_5 : decode cX2_weighs 5 = .ok (.iconst 0, 1) := by decide +kernel
theorem dX2_weighs_6 : decode cX2_weighs 6 = .ok (.istore 4, 2) := by decide +kernel
theorem dX2_weighs_8 : decode cX2_weighs 8 = .ok (.iload 4, 2) := by decide +kernel
theorem dX2_weighs_10 : decode cX2_weighs 10 = .ok (.bipush 8, 2) := by decide +kernel
theorem dX2_weighs_12 : decode cX2_weighs 12 = .ok (.if_icmp .ge 86, 3) := by decide +kernel
theorem dX2_weighs_15 : decode cX2_weighs 15 = .ok (.aload_n 0, 1) := by decide +kernel
theorem dX2_weighs_16 : decode cX2_weighs 16 = .ok (.getfield 9, 3) := by decide +kernel
theorem dX2_weighs_19 : decode cX2_weighs 19 = .ok (.iload 4, 2) := by decide +kernel
theorem dX2_weighs_21 : decode cX2_weighs 21 = .ok (.aload_n 1, 1) := by decide +kernel
theorem dX2_weighs_22 : decode cX2_weighs 22 = .ok (.getfield 19, 3) := by decide +kernel
theorem dX2_weighs_25 : decode cX2_weighs 25 = .ok (.iload 4, 2) := by decide +kernel
theorem dX2_weighs_27 : decode cX2_weighs 27 = .ok (.iaload, 1) := by decide +kernel
theorem dX2_weighs_28 : decode cX2_weighs 28 = .ok (.i2l, 1) := by decide +kernel
theorem dX2_weighs_29 : decode cX2_weighs 29 = .ok (.lastore, 1) := by decide +kernel
theorem dX2_weighs_30 : decode cX2_weighs 30 = .ok (.iconst 0, 1) := by decide +kernel
theorem dX2_weighs_31 : decode cX2_weighs 31 = .ok (.istore 5, 2) := by decide +kernel
theorem dX2_weighs_33 : decode cX2_weighs 33 = .ok (.iload 5, 2) := by decide +kernel
theorem dX2_weighs_35 : decode cX2_weighs 35 = .ok (.aload_n 2, 1) := by decide +kernel
theorem dX2_weighs_36 : decode cX2_weighs 36 = .ok (.getfield 25, 3) := by decide +kernel
theorem dX2_weighs_39 : decode cX2_weighs 39 = .ok (.getfield 31, 3) := by decide +kernel
theorem dX2_weighs_42 : decode cX2_weighs 42 = .ok (.if_icmp .ge 34, 3) := by decide +kernel
theorem dX2_weighs_45 : decode cX2_weighs 45 = .ok (.iload 5, 2) := by decide +kernel
theorem dX2_weighs_47 : decode cX2_weighs 47 = .ok (.iload_n 3, 1) := by decide +kernel
theorem dX2_weighs_48 : decode cX2_weighs 48 = .ok (.if_icmp .eq 22, 3) := by decide +kernel
theorem dX2_weighs_51 : decode cX2_weighs 51 = .ok (.aload_n 0, 1) := by decide +kernel
theorem dX2_weighs_52 : decode cX2_weighs 52 = .ok (.getfield 9, 3) := by decide +kernel
theorem dX2_weighs_55 : decode cX2_weighs 55 = .ok (.iload 4, 2) := by decide +kernel
theorem dX2_weighs_57 : decode cX2_weighs 57 = .ok (.dup2, 1) := by decide +kernel
theorem dX2_weighs_58 : decode cX2_weighs 58 = .ok (.laload, 1) := by decide +kernel
theorem dX2_weighs_59 : decode cX2_weighs 59 = .ok (.aload_n 2, 1) := by decide +kernel
theorem dX2_weighs_60 : decode cX2_weighs 60 = .ok (.iload 5, 2) := by decide +kernel
theorem dX2_weighs_62 : decode cX2_weighs 62 = .ok (.iload 4, 2) := by decide +kernel
theorem dX2_weighs_64 : decode cX2_weighs 64 = .ok (.invokestatic 37, 3) := by decide +kernel
theorem dX2_weighs_67 : decode cX2_weighs 67 = .ok (.i2l, 1) := by decide +kernel
theorem dX2_weighs_68 : decode cX2_weighs 68 = .ok (.lmul, 1) := by decide +kernel
theorem dX2_weighs_69 : decode cX2_weighs 69 = .ok (.lastore, 1) := by decide +kernel
theorem dX2_weighs_70 : decode cX2_weighs 70 = .ok (.iinc 5 1, 3) := by decide +kernel
theorem dX2_weighs_73 : decode cX2_weighs 73 = .ok (.goto (-40), 3) := by decide +kernel
theorem dX2_weighs_76 : decode cX2_weighs 76 = .ok (.aload_n 0, 1) := by decide +kernel
theorem dX2_weighs_77 : decode cX2_weighs 77 = .ok (.dup, 1) := by decide +kernel
theorem dX2_weighs_78 : decode cX2_weighs 78 = .ok (.getfield 15, 3) := by decide +kernel
theorem dX2_weighs_81 : decode cX2_weighs 81 = .ok (.aload_n 0, 1) := by decide +kernel
theorem dX2_weighs_82 : decode cX2_weighs 82 = .ok (.getfield 9, 3) := by decide +kernel
theorem dX2_weighs_85 : decode cX2_weighs 85 = .ok (.iload 4, 2) := by decide +kernel
theorem dX2_weighs_87 : decode cX2_weighs 87 = .ok (.laload, 1) := by decide +kernel
theorem dX2_weighs_88 : decode cX2_weighs 88 = .ok (.ladd, 1) := by decide +kernel
theorem dX2_weighs_89 : decode cX2_weighs 89 = .ok (.putfield 15, 3) := by decide +kernel
theorem dX2_weighs_92 : decode cX2_weighs 92 = .ok (.iinc 4 1, 3) := by decide +kernel
theorem dX2_weighs_95 : decode cX2_weighs 95 = .ok (.goto (-87), 3) := by decide +kernel
theorem dX2_weighs_98 : decode cX2_weighs 98 = .ok (.return_, 1) := by decide +kernel
theorem dX2_timesBy_0 : decode cX2_timesBy 0 = .ok (.aload_n 0, 1) := by decide +kernel
theorem dX2_timesBy_1 : decode cX2_timesBy 1 = .ok (.getfield 25, 3) := by decide +kernel
theorem dX2_timesBy_4 : decode cX2_timesBy 4 = .ok (.getfield 41, 3) := by decide +kernel
theorem dX2_timesBy_7 : decode cX2_timesBy 7 = .ok (.iload_n 1, 1) := by decide +kernel
theorem dX2_timesBy_8 : decode cX2_timesBy 8 = .ok (.iaload, 1) := by decide +kernel
theorem dX2_timesBy_9 : decode cX2_timesBy 9 = .ok (.bipush 18, 2) := by decide +kernel
theorem dX2_timesBy_11 : decode cX2_timesBy 11 = .ok (.iadd, 1) := by decide +kernel
theorem dX2_timesBy_12 : decode cX2_timesBy 12 = .ok (.istore_n 3, 1) := by decide +kernel
theorem dX2_timesBy_13 : decode cX2_timesBy 13 = .ok (.aload_n 0, 1) := by decide +kernel
theorem dX2_timesBy_14 : decode cX2_timesBy 14 = .ok (.getfield 25, 3) := by decide +kernel
theorem dX2_timesBy_17 : decode cX2_timesBy 17 = .ok (.getfield 44, 3) := by decide +kernel
theorem dX2_timesBy_20 : decode cX2_timesBy 20 = .ok (.iload_n 1, 1) := by decide +kernel
theorem dX2_timesBy_21 : decode cX2_timesBy 21 = .ok (.iaload, 1) := by decide +kernel
theorem dX2_timesBy_22 : decode cX2_timesBy 22 = .ok (.istore 4, 2) := by decide +kernel
theorem dX2_timesBy_24 : decode cX2_timesBy 24 = .ok (.iload 4, 2) := by decide +kernel
theorem dX2_timesBy_26 : decode cX2_timesBy 26 = .ok (.iload_n 2, 1) := by decide +kernel
theorem dX2_timesBy_27 : decode cX2_timesBy 27 = .ok (.invokestatic 47, 3) := by decide +kernel
theorem dX2_timesBy_30 : decode cX2_timesBy 30 = .ok (.istore 5, 2) := by decide +kernel
theorem dX2_timesBy_32 : decode cX2_timesBy 32 = .ok (.iload_n 3, 1) := by decide +kernel
theorem dX2_timesBy_33 : decode cX2_timesBy 33 = .ok (.tableswitch 67 18 20 #[27, 43, 55], 27) := by decide +kernel
theorem dX2_timesBy_60 : decode cX2_timesBy 60 = .ok (.aload_n 0, 1) := by decide +kernel
theorem dX2_timesBy_61 : decode cX2_timesBy 61 = .ok (.aload_n 0, 1) := by decide +kernel
theorem dX2_timesBy_62 : decode cX2_timesBy 62 = .ok (.getfield 25, 3) := by decide +kernel
theorem dX2_timesBy_65 : decode cX2_timesBy 65 = .ok (.getfield 51, 3) := by decide +kernel
theorem dX2_timesBy_68 : decode cX2_timesBy 68 = .ok (.iload_n 1, 1) := by decide +kernel
theorem dX2_timesBy_69 : decode cX2_timesBy 69 = .ok (.iaload, 1) := by decide +kernel
theorem dX2_timesBy_70 : decode cX2_timesBy 70 = .ok (.iload 5, 2) := by decide +kernel
theorem dX2_timesBy_72 : decode cX2_timesBy 72 = .ok (.invokestatic 54, 3) := by decide +kernel
theorem dX2_timesBy_75 : decode cX2_timesBy 75 = .ok (.ireturn, 1) := by decide +kernel
theorem dX2_timesBy_76 : decode cX2_timesBy 76 = .ok (.iload 5, 2) := by decide +kernel
theorem dX2_timesBy_78 : decode cX2_timesBy 78 = .ok (.iconst 2, 1) := by decide +kernel
theorem dX2_timesBy_79 : decode cX2_timesBy 79 = .ok (.if_icmp .lt 7, 3) := by decide +kernel
theorem dX2_timesBy_82 : decode cX2_timesBy 82 = .ok (.iconst 1, 1) := by decide +kernel
theorem dX2_timesBy_83 : decode cX2_timesBy 83 = .ok (.goto 4, 3) := by decide +kernel
theorem dX2_timesBy_86 : decode cX2_timesBy 86 = .ok (.iconst 0, 1) := by decide +kernel
theorem dX2_timesBy_87 : decode cX2_timesBy 87 = .ok (.ireturn, 1) := by decide +kernel
theorem dX2_timesBy_88 : decode cX2_timesBy 88 = .ok (.iload 5, 2) := by decide +kernel
theorem dX2_timesBy_90 : decode cX2_timesBy 90 = .ok (.iconst 1, 1) := by decide +kernel
theorem dX2_timesBy_91 : decode cX2_timesBy 91 = .ok (.if_icmp .ne 7, 3) := by decide +kernel
theorem dX2_timesBy_94 : decode cX2_timesBy 94 = .ok (.iconst 1, 1) := by decide +kernel
theorem dX2_timesBy_95 : decode cX2_timesBy 95 = .ok (.goto 4, 3) := by decide +kernel
theorem dX2_timesBy_98 : decode cX2_timesBy 98 = .ok (.iconst 0, 1) := by decide +kernel
theorem dX2_timesBy_99 : decode cX2_timesBy 99 = .ok (.ireturn, 1) := by decide +kernel
theorem dX2_timesBy_100 : decode cX2_timesBy 100 = .ok (.iload 5, 2) := by decide +kernel
theorem dX2_timesBy_102 : decode cX2_timesBy 102 = .ok (.ifCond .ne 7, 3) := by decide +kernel
theorem dX2_timesBy_105 : decode cX2_timesBy 105 = .ok (.iconst 1, 1) := by decide +kernel
theorem dX2_timesBy_106 : decode cX2_timesBy 106 = .ok (.goto 4, 3) := by decide +kernel
theorem dX2_timesBy_109 : decode cX2_timesBy 109 = .ok (.iconst 0, 1) := by decide +kernel
theorem dX2_timesBy_110 : decode cX2_timesBy 110 = .ok (.ireturn, 1) := by decide +kernel
theorem dX2_timesBySays_0 : decode cX2_timesBySays 0 = .ok (.iload_n 1, 1) := by decide +kernel
theorem dX2_timesBySays_1 : decode cX2_timesBySays 1 = .ok (.ifCond .lt 18, 3) := by decide +kernel
theorem dX2_timesBySays_4 : decode cX2_timesBySays 4 = .ok (.iload_n 1, 1) := by decide +kernel
theorem dX2_timesBySays_5 : decode cX2_timesBySays 5 = .ok (.bipush 8, 2) := by decide +kernel
theorem dX2_timesBySays_7 : decode cX2_timesBySays 7 = .ok (.if_icmp .ge 12, 3) := by decide +kernel
theorem dX2_timesBySays_10 : decode cX2_timesBySays 10 = .ok (.aload_n 0, 1) := by decide +kernel
theorem dX2_timesBySays_11 : decode cX2_timesBySays 11 = .ok (.getfield 57, 3) := by decide +kernel
theorem dX2_timesBySays_14 : decode cX2_timesBySays 14 = .ok (.iload_n 1, 1) := by decide +kernel
theorem dX2_timesBySays_15 : decode cX2_timesBySays 15 = .ok (.iaload, 1) := by decide +kernel
theorem dX2_timesBySays_16 : decode cX2_timesBySays 16 = .ok (.goto 4, 3) := by decide +kernel
theorem dX2_timesBySays_19 : decode cX2_timesBySays 19 = .ok (.iconst 0, 1) := by decide +kernel
theorem dX2_timesBySays_20 : decode cX2_timesBySays 20 = .ok (.istore_n 3, 1) := by decide +kernel
theorem dX2_timesBySays_21 : decode cX2_timesBySays 21 = .ok (.iload_n 2, 1) := by decide +kernel
theorem dX2_timesBySays_22 : decode cX2_timesBySays 22 = .ok (.ifCond .ne 10, 3) := by decide +kernel
theorem dX2_timesBySays_25 : decode cX2_timesBySays 25 = .ok (.bipush 7, 2) := by decide +kernel
theorem dX2_timesBySays_27 : decode cX2_timesBySays 27 = .ok (.iload_n 3, 1) := by decide +kernel
theorem dX2_timesBySays_28 : decode cX2_timesBySays 28 = .ok (.imul, 1) := by decide +kernel
theorem dX2_timesBySays_29 : decode cX2_timesBySays 29 = .ok (.goto 7, 3) := by decide +kernel
theorem dX2_timesBySays_32 : decode cX2_timesBySays 32 = .ok (.bipush 10, 2) := by decide +kernel
theorem dX2_timesBySays_34 : decode cX2_timesBySays 34 = .ok (.iload_n 3, 1) := by decide +kernel
theorem dX2_timesBySays_35 : decode cX2_timesBySays 35 = .ok (.isub, 1) := by decide +kernel
theorem dX2_timesBySays_36 : decode cX2_timesBySays 36 = .ok (.ireturn, 1) := by decide +kernel
theorem dX2_beside_0 : decode cX2_beside 0 = .ok (.aload_n 0, 1) := by decide +kernel
theorem dX2_beside_1 : decode cX2_beside 1 = .ok (.getfield 9, 3) := by decide +kernel
theorem dX2_beside_4 : decode cX2_beside 4 = .ok (.iload_n 1, 1) := by decide +kernel
theorem dX2_beside_5 : decode cX2_beside 5 = .ok (.iconst 1, 1) := by decide +kernel
theorem dX2_beside_6 : decode cX2_beside 6 = .ok (.iadd, 1) := by decide +kernel
theorem dX2_beside_7 : decode cX2_beside 7 = .ok (.bipush 7, 2) := by decide +kernel
theorem dX2_beside_9 : decode cX2_beside 9 = .ok (.iand, 1) := by decide +kernel
theorem dX2_beside_10 : decode cX2_beside 10 = .ok (.laload, 1) := by decide +kernel
theorem dX2_beside_11 : decode cX2_beside 11 = .ok (.aload_n 0, 1) := by decide +kernel
theorem dX2_beside_12 : decode cX2_beside 12 = .ok (.getfield 9, 3) := by decide +kernel
theorem dX2_beside_15 : decode cX2_beside 15 = .ok (.iload_n 1, 1) := by decide +kernel
theorem dX2_beside_16 : decode cX2_beside 16 = .ok (.bipush 7, 2) := by decide +kernel
theorem dX2_beside_18 : decode cX2_beside 18 = .ok (.iadd, 1) := by decide +kernel
theorem dX2_beside_19 : decode cX2_beside 19 = .ok (.bipush 7, 2) := by decide +kernel
theorem dX2_beside_21 : decode cX2_beside 21 = .ok (.iand, 1) := by decide +kernel
theorem dX2_beside_22 : decode cX2_beside 22 = .ok (.laload, 1) := by decide +kernel
theorem dX2_beside_23 : decode cX2_beside 23 = .ok (.ladd, 1) := by decide +kernel
theorem dX2_beside_24 : decode cX2_beside 24 = .ok (.lreturn, 1) := by decide +kernel
theorem dX2_bestWay_0 : decode cX2_bestWay 0 = .ok (.aload_n 0, 1) := by decide +kernel
theorem dX2_bestWay_1 : decode cX2_bestWay 1 = .ok (.aload_n 1, 1) := by decide +kernel
theorem dX2_bestWay_2 : decode cX2_bestWay 2 = .ok (.aload_n 2, 1) := by decide +kernel
theorem dX2_bestWay_3 : decode cX2_bestWay 3 = .ok (.iload_n 3, 1) := by decide +kernel
theorem dX2_bestWay_4 : decode cX2_bestWay 4 = .ok (.invokevirtual 60, 3) := by decide +kernel
theorem dX2_bestWay_7 : decode cX2_bestWay 7 = .ok (.aload_n 0, 1) := by decide +kernel
theorem dX2_bestWay_8 : decode cX2_bestWay 8 = .ok (.getfield 15, 3) := by decide +kernel
theorem dX2_bestWay_11 : decode cX2_bestWay 11 = .ok (.lconst 0, 1) := by decide +kernel
theorem dX2_bestWay_12 : decode cX2_bestWay 12 = .ok (.lcmp, 1) := by decide +kernel
theorem dX2_bestWay_13 : decode cX2_bestWay 13 = .ok (.ifCond .ne 5, 3) := by decide +kernel
theorem dX2_bestWay_16 : decode cX2_bestWay 16 = .ok (.iconst (-1), 1) := by decide +kernel
theorem dX2_bestWay_17 : decode cX2_bestWay 17 = .ok (.ireturn, 1) := by decide +kernel
theorem dX2_bestWay_18 : decode cX2_bestWay 18 = .ok (.iconst 0, 1) := by decide +kernel
theorem dX2_bestWay_19 : decode cX2_bestWay 19 = .ok (.istore 4, 2) := by decide +kernel
theorem dX2_bestWay_21 : decode cX2_bestWay 21 = .ok (.iconst 1, 1) := by decide +kernel
theorem dX2_bestWay_22 : decode cX2_bestWay 22 = .ok (.istore 5, 2) := by decide +kernel
theorem dX2_bestWay_24 : decode cX2_bestWay 24 = .ok (.iload 5, 2) := by decide +kernel
theorem dX2_bestWay_26 : decode cX2_bestWay 26 = .ok (.bipush 8, 2) := by decide +kernel
theorem dX2_bestWay_28 : decode cX2_bestWay 28 = .ok (.if_icmp .ge 53, 3) := by decide +kernel
theorem dX2_bestWay_31 : decode cX2_bestWay 31 = .ok (.ldc2_w 64, 3) := by decide +kernel
theorem dX2_bestWay_34 : decode cX2_bestWay 34 = .ok (.aload_n 0, 1) := by decide +kernel
theorem dX2_bestWay_35 : decode cX2_bestWay 35 = .ok (.getfield 9, 3) := by decide +kernel
theorem dX2_bestWay_38 : decode cX2_bestWay 38 = .ok (.iload 5, 2) := by decide +kernel
theorem dX2_bestWay_40 : decode cX2_bestWay 40 = .ok (.laload, 1) := by decide +kernel
theorem dX2_bestWay_41 : decode cX2_bestWay 41 = .ok (.lmul, 1) := by decide +kernel
theorem dX2_bestWay_42 : decode cX2_bestWay 42 = .ok (.aload_n 0, 1) := by decide +kernel
theorem dX2_bestWay_43 : decode cX2_bestWay 43 = .ok (.iload 5, 2) := by decide +kernel
theorem dX2_bestWay_45 : decode cX2_bestWay 45 = .ok (.invokevirtual 66, 3) := by decide +kernel
theorem dX2_bestWay_48 : decode cX2_bestWay 48 = .ok (.ladd, 1) := by decide +kernel
theorem dX2_bestWay_49 : decode cX2_bestWay 49 = .ok (.ldc2_w 64, 3) := by decide +kernel
theorem dX2_bestWay_52 : decode cX2_bestWay 52 = .ok (.aload_n 0, 1) := by decide +kernel
theorem dX2_bestWay_53 : decode cX2_bestWay 53 = .ok (.getfield 9, 3) := by decide +kernel
theorem dX2_bestWay_56 : decode cX2_bestWay 56 = .ok (.iload 4, 2) := by decide +kernel
theorem dX2_bestWay_58 : decode cX2_bestWay 58 = .ok (.laload, 1) := by decide +kernel
theorem dX2_bestWay_59 : decode cX2_bestWay 59 = .ok (.lmul, 1) := by decide +kernel
theorem dX2_bestWay_60 : decode cX2_bestWay 60 = .ok (.aload_n 0, 1) := by decide +kernel
theorem dX2_bestWay_61 : decode cX2_bestWay 61 = .ok (.iload 4, 2) := by decide +kernel
theorem dX2_bestWay_63 : decode cX2_bestWay 63 = .ok (.invokevirtual 66, 3) := by decide +kernel
theorem dX2_bestWay_66 : decode cX2_bestWay 66 = .ok (.ladd, 1) := by decide +kernel
theorem dX2_bestWay_67 : decode cX2_bestWay 67 = .ok (.lcmp, 1) := by decide +kernel
theorem dX2_bestWay_68 : decode cX2_bestWay 68 = .ok (.ifCond .le 7, 3) := by decide +kernel
theorem dX2_bestWay_71 : decode cX2_bestWay 71 = .ok (.iload 5, 2) := by decide +kernel
theorem dX2_bestWay_73 : decode cX2_bestWay 73 = .ok (.istore 4, 2) := by decide +kernel
theorem dX2_bestWay_75 : decode cX2_bestWay 75 = .ok (.iinc 5 1, 3) := by decide +kernel
theorem dX2_bestWay_78 : decode cX2_bestWay 78 = .ok (.goto (-54), 3) := by decide +kernel
theorem dX2_bestWay_81 : decode cX2_bestWay 81 = .ok (.iload 4, 2) := by decide +kernel
theorem dX2_bestWay_83 : decode cX2_bestWay 83 = .ok (.ireturn, 1) := by decide +kernel
theorem dX2_misled_0 : decode cX2_misled 0 = .ok (.aload_n 0, 1) := by decide +kernel
theorem dX2_misled_1 : decode cX2_misled 1 = .ok (.aload_n 1, 1) := by decide +kernel
theorem dX2_misled_2 : decode cX2_misled 2 = .ok (.aload_n 2, 1) := by decide +kernel
theorem dX2_misled_3 : decode cX2_misled 3 = .ok (.iconst (-1), 1) := by decide +kernel
theorem dX2_misled_4 : decode cX2_misled 4 = .ok (.invokevirtual 70, 3) := by decide +kernel
theorem dX2_misled_7 : decode cX2_misled 7 = .ok (.istore_n 3, 1) := by decide +kernel
theorem dX2_misled_8 : decode cX2_misled 8 = .ok (.iconst 0, 1) := by decide +kernel
theorem dX2_misled_9 : decode cX2_misled 9 = .ok (.istore 4, 2) := by decide +kernel
theorem dX2_misled_11 : decode cX2_misled 11 = .ok (.iconst 0, 1) := by decide +kernel
theorem dX2_misled_12 : decode cX2_misled 12 = .ok (.istore 5, 2) := by decide +kernel
theorem dX2_misled_14 : decode cX2_misled 14 = .ok (.iload 5, 2) := by decide +kernel
theorem dX2_misled_16 : decode cX2_misled 16 = .ok (.aload_n 2, 1) := by decide +kernel
theorem dX2_misled_17 : decode cX2_misled 17 = .ok (.getfield 25, 3) := by decide +kernel
theorem dX2_misled_20 : decode cX2_misled 20 = .ok (.getfield 31, 3) := by decide +kernel
theorem dX2_misled_23 : decode cX2_misled 23 = .ok (.if_icmp .ge 35, 3) := by decide +kernel
theorem dX2_misled_26 : decode cX2_misled 26 = .ok (.iload_n 3, 1) := by decide +kernel
theorem dX2_misled_27 : decode cX2_misled 27 = .ok (.iconst (-1), 1) := by decide +kernel
theorem dX2_misled_28 : decode cX2_misled 28 = .ok (.if_icmp .eq 30, 3) := by decide +kernel
theorem dX2_misled_31 : decode cX2_misled 31 = .ok (.aload_n 0, 1) := by decide +kernel
theorem dX2_misled_32 : decode cX2_misled 32 = .ok (.aload_n 1, 1) := by decide +kernel
theorem dX2_misled_33 : decode cX2_misled 33 = .ok (.aload_n 2, 1) := by decide +kernel
theorem dX2_misled_34 : decode cX2_misled 34 = .ok (.iload 5, 2) := by decide +kernel
theorem dX2_misled_36 : decode cX2_misled 36 = .ok (.invokevirtual 70, 3) := by decide +kernel
theorem dX2_misled_39 : decode cX2_misled 39 = .ok (.iload_n 3, 1) := by decide +kernel
theorem dX2_misled_40 : decode cX2_misled 40 = .ok (.if_icmp .eq 12, 3) := by decide +kernel
theorem dX2_misled_43 : decode cX2_misled 43 = .ok (.iload 4, 2) := by decide +kernel
theorem dX2_misled_45 : decode cX2_misled 45 = .ok (.iconst 1, 1) := by decide +kernel
theorem dX2_misled_46 : decode cX2_misled 46 = .ok (.iload 5, 2) := by decide +kernel
theorem dX2_misled_48 : decode cX2_misled 48 = .ok (.ishl, 1) := by decide +kernel
theorem dX2_misled_49 : decode cX2_misled 49 = .ok (.ior, 1) := by decide +kernel
theorem dX2_misled_50 : decode cX2_misled 50 = .ok (.istore 4, 2) := by decide +kernel
theorem dX2_misled_52 : decode cX2_misled 52 = .ok (.iinc 5 1, 3) := by decide +kernel
theorem dX2_misled_55 : decode cX2_misled 55 = .ok (.goto (-41), 3) := by decide +kernel
theorem dX2_misled_58 : decode cX2_misled 58 = .ok (.iload 4, 2) := by decide +kernel
theorem dX2_misled_60 : decode cX2_misled 60 = .ok (.ireturn, 1) := by decide +kernel
theorem dX2_contrary_0 : decode cX2_contrary 0 = .ok (.aload_n 0, 1) := by decide +kernel
theorem dX2_contrary_1 : decode cX2_contrary 1 = .ok (.aload_n 1, 1) := by decide +kernel
theorem dX2_contrary_2 : decode cX2_contrary 2 = .ok (.aload_n 2, 1) := by decide +kernel
theorem dX2_contrary_3 : decode cX2_contrary 3 = .ok (.iconst (-1), 1) := by decide +kernel
theorem dX2_contrary_4 : decode cX2_contrary 4 = .ok (.invokevirtual 60, 3) := by decide +kernel
theorem dX2_contrary_7 : decode cX2_contrary 7 = .ok (.aload_n 0, 1) := by decide +kernel
theorem dX2_contrary_8 : decode cX2_contrary 8 = .ok (.getfield 15, 3) := by decide +kernel
theorem dX2_contrary_11 : decode cX2_contrary 11 = .ok (.lconst 0, 1) := by decide +kernel
theorem dX2_contrary_12 : decode cX2_contrary 12 = .ok (.lcmp, 1) := by decide +kernel
theorem dX2_contrary_13 : decode cX2_contrary 13 = .ok (.ifCond .ne 7, 3) := by decide +kernel
theorem dX2_contrary_16 : decode cX2_contrary 16 = .ok (.iconst 1, 1) := by decide +kernel
theorem dX2_contrary_17 : decode cX2_contrary 17 = .ok (.goto 4, 3) := by decide +kernel
theorem dX2_contrary_20 : decode cX2_contrary 20 = .ok (.iconst 0, 1) := by decide +kernel
theorem dX2_contrary_21 : decode cX2_contrary 21 = .ok (.istore_n 3, 1) := by decide +kernel
theorem dX2_contrary_22 : decode cX2_contrary 22 = .ok (.iconst 0, 1) := by decide +kernel
theorem dX2_contrary_23 : decode cX2_contrary 23 = .ok (.istore 4, 2) := by decide +kernel
theorem dX2_contrary_25 : decode cX2_contrary 25 = .ok (.iconst 0, 1) := by decide +kernel
theorem dX2_contrary_26 : decode cX2_contrary 26 = .ok (.istore 5, 2) := by decide +kernel
theorem dX2_contrary_28 : decode cX2_contrary 28 = .ok (.iload 5, 2) := by decide +kernel
theorem dX2_contrary_30 : decode cX2_contrary 30 = .ok (.aload_n 2, 1) := by decide +kernel
theorem dX2_contrary_31 : decode cX2_contrary 31 = .ok (.getfield 25, 3) := by decide +kernel
theorem dX2_contrary_34 : decode cX2_contrary 34 = .ok (.getfield 31, 3) := by decide +kernel
theorem dX2_contrary_37 : decode cX2_contrary 37 = .ok (.if_icmp .ge 39, 3) := by decide +kernel
theorem dX2_contrary_40 : decode cX2_contrary 40 = .ok (.iload_n 3, 1) := by decide +kernel
theorem dX2_contrary_41 : decode cX2_contrary 41 = .ok (.ifCond .eq 35, 3) := by decide +kernel
theorem dX2_contrary_44 : decode cX2_contrary 44 = .ok (.aload_n 0, 1) := by decide +kernel
theorem dX2_contrary_45 : decode cX2_contrary 45 = .ok (.aload_n 1, 1) := by decide +kernel
theorem dX2_contrary_46 : decode cX2_contrary 46 = .ok (.aload_n 2, 1) := by decide +kernel
theorem dX2_contrary_47 : decode cX2_contrary 47 = .ok (.iload 5, 2) := by decide +kernel
theorem dX2_contrary_49 : decode cX2_contrary 49 = .ok (.invokevirtual 60, 3) := by decide +kernel
theorem dX2_contrary_52 : decode cX2_contrary 52 = .ok (.aload_n 0, 1) := by decide +kernel
theorem dX2_contrary_53 : decode cX2_contrary 53 = .ok (.getfield 15, 3) := by decide +kernel
theorem dX2_contrary_56 : decode cX2_contrary 56 = .ok (.lconst 0, 1) := by decide +kernel
theorem dX2_contrary_57 : decode cX2_contrary 57 = .ok (.lcmp, 1) := by decide +kernel
theorem dX2_contrary_58 : decode cX2_contrary 58 = .ok (.ifCond .le 12, 3) := by decide +kernel
theorem dX2_contrary_61 : decode cX2_contrary 61 = .ok (.iload 4, 2) := by decide +kernel
theorem dX2_contrary_63 : decode cX2_contrary 63 = .ok (.iconst 1, 1) := by decide +kernel
theorem dX2_contrary_64 : decode cX2_contrary 64 = .ok (.iload 5, 2) := by decide +kernel
theorem dX2_contrary_66 : decode cX2_contrary 66 = .ok (.ishl, 1) := by decide +kernel
theorem dX2_contrary_67 : decode cX2_contrary 67 = .ok (.ior, 1) := by decide +kernel
theorem dX2_contrary_68 : decode cX2_contrary 68 = .ok (.istore 4, 2) := by decide +kernel
theorem dX2_contrary_70 : decode cX2_contrary 70 = .ok (.iinc 5 1, 3) := by decide +kernel
theorem dX2_contrary_73 : decode cX2_contrary 73 = .ok (.goto (-45), 3) := by decide +kernel
theorem dX2_contrary_76 : decode cX2_contrary 76 = .ok (.iload 4, 2) := by decide +kernel
theorem dX2_contrary_78 : decode cX2_contrary 78 = .ok (.ireturn, 1) := by decide +kernel
theorem dX3_init_0 : decode cX3_init 0 = .ok (.aload_n 0, 1) := by decide +kernel
theorem dX3_init_1 : decode cX3_init 1 = .ok (.invokespecial 3, 3) := by decide +kernel
theorem dX3_init_4 : decode cX3_init 4 = .ok (.aload_n 0, 1) := by decide +kernel
theorem dX3_init_5 : decode cX3_init 5 = .ok (.iconst 0, 1) := by decide +kernel
theorem dX3_init_6 : decode cX3_init 6 = .ok (.iload_n 1, 1) := by decide +kernel
theorem dX3_init_7 : decode cX3_init 7 = .ok (.invokestatic 9, 3) := by decide +kernel
theorem dX3_init_10 : decode cX3_init 10 = .ok (.putfield 15, 3) := by decide +kernel
theorem dX3_init_13 : decode cX3_init 13 = .ok (.aload_n 0, 1) := by decide +kernel
theorem dX3_init_14 : decode cX3_init 14 = .ok (.aload_n 0, 1) := by decide +kernel
theorem dX3_init_15 : decode cX3_init 15 = .ok (.getfield 15, 3) := by decide +kernel
theorem dX3_init_18 : decode cX3_init 18 = .ok (.newarray .int, 2) := by decide +kernel
theorem dX3_init_20 : decode cX3_init 20 = .ok (.putfield 21, 3) := by decide +kernel
theorem dX3_init_23 : decode cX3_init 23 = .ok (.aload_n 0, 1) := by decide +kernel
theorem dX3_init_24 : decode cX3_init 24 = .ok (.aload_n 0, 1) := by decide +kernel
theorem dX3_init_25 : decode cX3_init 25 = .ok (.getfield 15, 3) := by decide +kernel
theorem dX3_init_28 : decode cX3_init 28 = .ok (.newarray .int, 2) := by decide +kernel
theorem dX3_init_30 : decode cX3_init 30 = .ok (.putfield 25, 3) := by decide +kernel
theorem dX3_init_33 : decode cX3_init 33 = .ok (.aload_n 0, 1) := by decide +kernel
theorem dX3_init_34 : decode cX3_init 34 = .ok (.aload_n 0, 1) := by decide +kernel
theorem dX3_init_35 : decode cX3_init 35 = .ok (.getfield 15, 3) := by decide +kernel
theorem dX3_init_38 : decode cX3_init 38 = .ok (.newarray .int, 2) := by decide +kernel
theorem dX3_init_40 : decode cX3_init 40 = .ok (.putfield 28, 3) := by decide +kernel
theorem dX3_init_43 : decode cX3_init 43 = .ok (.return_, 1) := by decide +kernel
theorem dX3_isFull_0 : decode cX3_isFull 0 = .ok (.aload_n 0, 1) := by decide +kernel
theorem dX3_isFull_1 : decode cX3_isFull 1 = .ok (.getfield 31, 3) := by decide +kernel
theorem dX3_isFull_4 : decode cX3_isFull 4 = .ok (.aload_n 0, 1) := by decide +kernel
theorem dX3_isFull_5 : decode cX3_isFull 5 = .ok (.getfield 15, 3) := by decide +kernel
theorem dX3_isFull_8 : decode cX3_isFull 8 = .ok (.if_icmp .lt 7, 3) := by decide +kernel
theorem dX3_isFull_11 : decode cX3_isFull 11 = .ok (.iconst 1, 1) := by decide +kernel
theorem dX3_isFull_12 : decode cX3_isFull 12 = .ok (.goto 4, 3) := by decide +kernel
theorem dX3_isFull_15 : decode cX3_isFull 15 = .ok (.iconst 0, 1) := by decide +kernel
theorem dX3_isFull_16 : decode cX3_isFull 16 = .ok (.ireturn, 1) := by decide +kernel
theorem dX3_add_0 : decode cX3_add 0 = .ok (.aload_n 0, 1) := by decide +kernel
theorem dX3_add_1 : decode cX3_add 1 = .ok (.invokevirtual 34, 3) := by decide +kernel
theorem dX3_add_4 : decode cX3_add 4 = .ok (.ifCond .ne 43, 3) := by decide +kernel
theorem dX3_add_7 : decode cX3_add 7 = .ok (.aload_n 0, 1) := by decide +kernel
theorem dX3_add_8 : decode cX3_add 8 = .ok (.getfield 21, 3) := by decide +kernel
theorem dX3_add_11 : decode cX3_add 11 = .ok (.aload_n 0, 1) := by decide +kernel
theorem dX3_add_12 : decode cX3_add 12 = .ok (.getfield 31, 3) := by decide +kernel
theorem dX3_add_15 : decode cX3_add 15 = .ok (.iload_n 1, 1) := by decide +kernel
theorem dX3_add_16 : decode cX3_add 16 = .ok (.iastore, 1) := by decide +kernel
theorem dX3_add_17 : decode cX3_add 17 = .ok (.aload_n 0, 1) := by decide +kernel
theorem dX3_add_18 : decode cX3_add 18 = .ok (.getfield 25, 3) := by decide +kernel
theorem dX3_add_21 : decode cX3_add 21 = .ok (.aload_n 0, 1) := by decide +kernel
theorem dX3_add_22 : decode cX3_add 22 = .ok (.getfield 31, 3) := by decide +kernel
theorem dX3_add_25 : decode cX3_add 25 = .ok (.iload_n 2, 1) := by decide +kernel
theorem dX3_add_26 : decode cX3_add 26 = .ok (.iastore, 1) := by decide +kernel
theorem dX3_add_27 : decode cX3_add 27 = .ok (.aload_n 0, 1) := by decide +kernel
theorem dX3_add_28 : decode cX3_add 28 = .ok (.getfield 28, 3) := by decide +kernel
theorem dX3_add_31 : decode cX3_add 31 = .ok (.aload_n 0, 1) := by decide +kernel
theorem dX3_add_32 : decode cX3_add 32 = .ok (.getfield 31, 3) := by decide +kernel
theorem dX3_add_35 : decode cX3_add 35 = .ok (.iload_n 3, 1) := by decide +kernel
theorem dX3_add_36 : decode cX3_add 36 = .ok (.iastore, 1) := by decide +kernel
theorem dX3_add_37 : decode cX3_add 37 = .ok (.aload_n 0, 1) := by decide +kernel
theorem dX3_add_38 : decode cX3_add 38 = .ok (.dup, 1) := by decide +kernel
theorem dX3_add_39 : decode cX3_add 39 = .ok (.getfield 31, 3) := by decide +kernel
theorem dX3_add_42 : decode cX3_add 42 = .ok (.iconst 1, 1) := by decide +kernel
theorem dX3_add_43 : decode cX3_add 43 = .ok (.iadd, 1) := by decide +kernel
theorem dX3_add_44 : decode cX3_add 44 = .ok (.putfield 31, 3) := by decide +kernel
theorem dX3_add_47 : decode cX3_add 47 = .ok (.return_, 1) := by decide +kernel
theorem dX3_answer_0 : decode cX3_answer 0 = .ok (.iload_n 1, 1) := by decide +kernel
theorem dX3_answer_1 : decode cX3_answer 1 = .ok (.ifCond .lt 11, 3) := by decide +kernel
theorem dX3_answer_4 : decode cX3_answer 4 = .ok (.iload_n 1, 1) := by decide +kernel
theorem dX3_answer_5 : decode cX3_answer 5 = .ok (.aload_n 0, 1) := by decide +kernel
theorem dX3_answer_6 : decode cX3_answer 6 = .ok (.getfield 31, 3) := by decide +kernel
theorem dX3_answer_9 : decode cX3_answer 9 = .ok (.if_icmp .lt 6, 3) := by decide +kernel
theorem dX3_answer_12 : decode cX3_answer 12 = .ok (.bipush (-2), 2) := by decide +kernel
theorem dX3_answer_14 : decode cX3_answer 14 = .ok (.ireturn, 1) := by decide +kernel
theorem dX3_answer_15 : decode cX3_answer 15 = .ok (.iload_n 2, 1) := by decide +kernel
theorem dX3_answer_16 : decode cX3_answer 16 = .ok (.tableswitch 49 0 2 #[28, 35, 42], 28) := by decide +kernel
theorem dX3_answer_44 : decode cX3_answer 44 = .ok (.aload_n 0, 1) := by decide +kernel
theorem dX3_answer_45 : decode cX3_answer 45 = .ok (.getfield 21, 3) := by decide +kernel
theorem dX3_answer_48 : decode cX3_answer 48 = .ok (.iload_n 1, 1) := by decide +kernel
theorem dX3_answer_49 : decode cX3_answer 49 = .ok (.iaload, 1) := by decide +kernel
theorem dX3_answer_50 : decode cX3_answer 50 = .ok (.ireturn, 1) := by decide +kernel
theorem dX3_answer_51 : decode cX3_answer 51 = .ok (.aload_n 0, 1) := by decide +kernel
theorem dX3_answer_52 : decode cX3_answer 52 = .ok (.getfield 25, 3) := by decide +kernel
theorem dX3_answer_55 : decode cX3_answer 55 = .ok (.iload_n 1, 1) := by decide +kernel
theorem dX3_answer_56 : decode cX3_answer 56 = .ok (.iaload, 1) := by decide +kernel
theorem dX3_answer_57 : decode cX3_answer 57 = .ok (.ireturn, 1) := by decide +kernel
theorem dX3_answer_58 : decode cX3_answer 58 = .ok (.aload_n 0, 1) := by decide +kernel
theorem dX3_answer_59 : decode cX3_answer 59 = .ok (.getfield 28, 3) := by decide +kernel
theorem dX3_answer_62 : decode cX3_answer 62 = .ok (.iload_n 1, 1) := by decide +kernel
theorem dX3_answer_63 : decode cX3_answer 63 = .ok (.iaload, 1) := by decide +kernel
theorem dX3_answer_64 : decode cX3_answer 64 = .ok (.ireturn, 1) := by decide +kernel
theorem dX3_answer_65 : decode cX3_answer 65 = .ok (.bipush (-2), 2) := by decide +kernel
theorem dX3_answer_67 : decode cX3_answer 67 = .ok (.ireturn, 1) := by decide +kernel
theorem dX3_sumOfSeconds_0 : decode cX3_sumOfSeconds 0 = .ok (.iconst 0, 1) := by decide +kernel
theorem dX3_sumOfSeconds_1 : decode cX3_sumOfSeconds 1 = .ok (.istore_n 1, 1) := by decide +kernel
theorem dX3_sumOfSeconds_2 : decode cX3_sumOfSeconds 2 = .ok (.iconst 0, 1) := by decide +kernel
theorem dX3_sumOfSeconds_3 : decode cX3_sumOfSeconds 3 = .ok (.istore_n 2, 1) := by decide +kernel
theorem dX3_sumOfSeconds_4 : decode cX3_sumOfSeconds 4 = .ok (.iload_n 2, 1) := by decide +kernel
theorem dX3_sumOfSeconds_5 : decode cX3_sumOfSeconds 5 = .ok (.aload_n 0, 1) := by decide +kernel
theorem dX3_sumOfSeconds_6 : decode cX3_sumOfSeconds 6 = .ok (.getfield 31, 3) := by decide +kernel
theorem dX3_sumOfSeconds_9 : decode cX3_sumOfSeconds 9 = .ok (.if_icmp .ge 18, 3) := by decide +kernel
theorem dX3_sumOfSeconds_12 : decode cX3_sumOfSeconds 12 = .ok (.iload_n 1, 1) := by decide +kernel
theorem dX3_sumOfSeconds_13 : decode cX3_sumOfSeconds 13 = .ok (.aload_n 0, 1) := by decide +kernel
theorem dX3_sumOfSeconds_14 : decode cX3_sumOfSeconds 14 = .ok (.getfield 28, 3) := by decide +kernel
theorem dX3_sumOfSeconds_17 : decode cX3_sumOfSeconds 17 = .ok (.iload_n 2, 1) := by decide +kernel
theorem dX3_sumOfSeconds_18 : decode cX3_sumOfSeconds 18 = .ok (.iaload, 1) := by decide +kernel
theorem dX3_sumOfSeconds_19 : decode cX3_sumOfSeconds 19 = .ok (.iadd, 1) := by decide +kernel
theorem dX3_sumOfSeconds_20 : decode cX3_sumOfSeconds 20 = .ok (.istore_n 1, 1) := by decide +kernel
theorem dX3_sumOfSeconds_21 : decode cX3_sumOfSeconds 21 = .ok (.iinc 2 1, 3) := by decide +kernel
theorem dX3_sumOfSeconds_24 : decode cX3_sumOfSeconds 24 = .ok (.goto (-20), 3) := by decide +kernel
theorem dX3_sumOfSeconds_27 : decode cX3_sumOfSeconds 27 = .ok (.iload_n 1, 1) := by decide +kernel
theorem dX3_sumOfSeconds_28 : decode cX3_sumOfSeconds 28 = .ok (.ireturn, 1) := by decide +kernel
theorem dX3_copy_0 : decode cX3_copy 0 = .ok (.aload_n 0, 1) := by decide +kernel
theorem dX3_copy_1 : decode cX3_copy 1 = .ok (.getfield 15, 3) := by decide +kernel
theorem dX3_copy_4 : decode cX3_copy 4 = .ok (.aload_n 1, 1) := by decide +kernel
theorem dX3_copy_5 : decode cX3_copy 5 = .ok (.getfield 15, 3) := by decide +kernel
theorem dX3_copy_8 : decode cX3_copy 8 = .ok (.if_icmp .ne 62, 3) := by decide +kernel
theorem dX3_copy_11 : decode cX3_copy 11 = .ok (.aload_n 1, 1) := by decide +kernel
theorem dX3_copy_12 : decode cX3_copy 12 = .ok (.getfield 21, 3) := by decide +kernel
theorem dX3_copy_15 : decode cX3_copy 15 = .ok (.iconst 0, 1) := by decide +kernel
theorem dX3_copy_16 : decode cX3_copy 16 = .ok (.aload_n 0, 1) := by decide +kernel
theorem dX3_copy_17 : decode cX3_copy 17 = .ok (.getfield 21, 3) := by decide +kernel
theorem dX3_copy_20 : decode cX3_copy 20 = .ok (.iconst 0, 1) := by decide +kernel
theorem dX3_copy_21 : decode cX3_copy 21 = .ok (.aload_n 0, 1) := by decide +kernel
theorem dX3_copy_22 : decode cX3_copy 22 = .ok (.getfield 15, 3) := by decide +kernel
theorem dX3_copy_25 : decode cX3_copy 25 = .ok (.invokestatic 38, 3) := by decide +kernel
theorem dX3_copy_28 : decode cX3_copy 28 = .ok (.aload_n 1, 1) := by decide +kernel
theorem dX3_copy_29 : decode cX3_copy 29 = .ok (.getfield 25, 3) := by decide +kernel
theorem dX3_copy_32 : decode cX3_copy 32 = .ok (.iconst 0, 1) := by decide +kernel
theorem dX3_copy_33 : decode cX3_copy 33 = .ok (.aload_n 0, 1) := by decide +kernel
theorem dX3_copy_34 : decode cX3_copy 34 = .ok (.getfield 25, 3) := by decide +kernel
theorem dX3_copy_37 : decode cX3_copy 37 = .ok (.iconst 0, 1) := by decide +kernel
theorem dX3_copy_38 : decode cX3_copy 38 = .ok (.aload_n 0, 1) := by decide +kernel
theorem dX3_copy_39 : decode cX3_copy 39 = .ok (.getfield 15, 3) := by decide +kernel
theorem dX3_copy_42 : decode cX3_copy 42 = .ok (.invokestatic 38, 3) := by decide +kernel
theorem dX3_copy_45 : decode cX3_copy 45 = .ok (.aload_n 1, 1) := by decide +kernel
theorem dX3_copy_46 : decode cX3_copy 46 = .ok (.getfield 28, 3) := by decide +kernel
theorem dX3_copy_49 : decode cX3_copy 49 = .ok (.iconst 0, 1) := by decide +kernel
theorem dX3_copy_50 : decode cX3_copy 50 = .ok (.aload_n 0, 1) := by decide +kernel
theorem dX3_copy_51 : decode cX3_copy 51 = .ok (.getfield 28, 3) := by decide +kernel
theorem dX3_copy_54 : decode cX3_copy 54 = .ok (.iconst 0, 1) := by decide +kernel
theorem dX3_copy_55 : decode cX3_copy 55 = .ok (.aload_n 0, 1) := by decide +kernel
theorem dX3_copy_56 : decode cX3_copy 56 = .ok (.getfield 15, 3) := by decide +kernel
theorem dX3_copy_59 : decode cX3_copy 59 = .ok (.invokestatic 38, 3) := by decide +kernel
theorem dX3_copy_62 : decode cX3_copy 62 = .ok (.aload_n 0, 1) := by decide +kernel
theorem dX3_copy_63 : decode cX3_copy 63 = .ok (.aload_n 1, 1) := by decide +kernel
theorem dX3_copy_64 : decode cX3_copy 64 = .ok (.getfield 31, 3) := by decide +kernel
theorem dX3_copy_67 : decode cX3_copy 67 = .ok (.putfield 31, 3) := by decide +kernel
theorem dX3_copy_70 : decode cX3_copy 70 = .ok (.return_, 1) := by decide +kernel
theorem dX4_init_0 : decode cX4_init 0 = .ok (.aload_n 0, 1) := by decide +kernel
theorem dX4_init_1 : decode cX4_init 1 = .ok (.invokespecial 3, 3) := by decide +kernel
theorem dX4_init_4 : decode cX4_init 4 = .ok (.aload_n 0, 1) := by decide +kernel
theorem dX4_init_5 : decode cX4_init 5 = .ok (.bipush 8, 2) := by decide +kernel
theorem dX4_init_7 : decode cX4_init 7 = .ok (.newarray .int, 2) := by decide +kernel
theorem dX4_init_9 : decode cX4_init 9 = .ok (.putfield 9, 3) := by decide +kernel
theorem dX4_init_12 : decode cX4_init 12 = .ok (.aload_n 0, 1) := by decide +kernel
theorem dX4_init_13 : decode cX4_init 13 = .ok (.sipush 137, 3) := by decide +kernel
theorem dX4_init_16 : decode cX4_init 16 = .ok (.newarray .long, 2) := by decide +kernel
theorem dX4_init_18 : decode cX4_init 18 = .ok (.putfield 15, 3) := by decide +kernel
theorem dX4_init_21 : decode cX4_init 21 = .ok (.aload_n 0, 1) := by decide +kernel
theorem dX4_init_22 : decode cX4_init 22 = .ok (.sipush 137, 3) := by decide +kernel
theorem dX4_init_25 : decode cX4_init 25 = .ok (.newarray .long, 2) := by decide +kernel
theorem dX4_init_27 : decode cX4_init 27 = .ok (.putfield 19, 3) := by decide +kernel
theorem dX4_init_30 : decode cX4_init 30 = .ok (.aload_n 0, 1) := by decide +kernel
theorem dX4_init_31 : decode cX4_init 31 = .ok (.bipush 32, 2) := by decide +kernel
theorem dX4_init_33 : decode cX4_init 33 = .ok (.newarray .long, 2) := by decide +kernel
theorem dX4_init_35 : decode cX4_init 35 = .ok (.putfield 22, 3) := by decide +kernel
theorem dX4_init_38 : decode cX4_init 38 = .ok (.aload_n 0, 1) := by decide +kernel
theorem dX4_init_39 : decode cX4_init 39 = .ok (.sipush 496, 3) := by decide +kernel
theorem dX4_init_42 : decode cX4_init 42 = .ok (.newarray .long, 2) := by decide +kernel
theorem dX4_init_44 : decode cX4_init 44 = .ok (.putfield 25, 3) := by decide +kernel
theorem dX4_init_47 : decode cX4_init 47 = .ok (.return_, 1) := by decide +kernel
theorem dX4_ofAll_0 : decode cX4_ofAll 0 = .ok (.aload_n 1, 1) := by decide +kernel
theorem dX4_ofAll_1 : decode cX4_ofAll 1 = .ok (.getfield 28, 3) := by decide +kernel
theorem dX4_ofAll_4 : decode cX4_ofAll 4 = .ok (.aload_n 1, 1) := by decide +kernel
theorem dX4_ofAll_5 : decode cX4_ofAll 5 = .ok (.getfield 34, 3) := by decide +kernel
theorem dX4_ofAll_8 : decode cX4_ofAll 8 = .ok (.imul, 1) := by decide +kernel
theorem dX4_ofAll_9 : decode cX4_ofAll 9 = .ok (.invokestatic 37, 3) := by decide +kernel
theorem dX4_ofAll_12 : decode cX4_ofAll 12 = .ok (.lreturn, 1) := by decide +kernel
theorem dX4_tens_0 : decode cX4_tens 0 = .ok (.iload_n 0, 1) := by decide +kernel
theorem dX4_tens_1 : decode cX4_tens 1 = .ok (.ifCond .lt 19, 3) := by decide +kernel
theorem dX4_tens_4 : decode cX4_tens 4 = .ok (.iload_n 0, 1) := by decide +kernel
theorem dX4_tens_5 : decode cX4_tens 5 = .ok (.getstatic 41, 3) := by decide +kernel
theorem dX4_tens_8 : decode cX4_tens 8 = .ok (.arraylength, 1) := by decide +kernel
theorem dX4_tens_9 : decode cX4_tens 9 = .ok (.if_icmp .ge 11, 3) := by decide +kernel
theorem dX4_tens_12 : decode cX4_tens 12 = .ok (.getstatic 41, 3) := by decide +kernel
theorem dX4_tens_15 : decode cX4_tens 15 = .ok (.iload_n 0, 1) := by decide +kernel
theorem dX4_tens_16 : decode cX4_tens 16 = .ok (.laload, 1) := by decide +kernel
theorem dX4_tens_17 : decode cX4_tens 17 = .ok (.goto 4, 3) := by decide +kernel
theorem dX4_tens_20 : decode cX4_tens 20 = .ok (.lconst 0, 1) := by decide +kernel
theorem dX4_tens_21 : decode cX4_tens 21 = .ok (.lreturn, 1) := by decide +kernel
theorem dX4_ordersBy_0 : decode cX4_ordersBy 0 = .ok (.iload_n 2, 1) := by decide +kernel
theorem dX4_ordersBy_1 : decode cX4_ordersBy 1 = .ok (.istore_n 3, 1) := by decide +kernel
theorem dX4_ordersBy_2 : decode cX4_ordersBy 2 = .ok (.iconst 0, 1) := by decide +kernel
theorem dX4_ordersBy_3 : decode cX4_ordersBy 3 = .ok (.istore 4, 2) := by decide +kernel
theorem dX4_ordersBy_5 : decode cX4_ordersBy 5 = .ok (.aload_n 1, 1) := by decide +kernel
theorem dX4_ordersBy_6 : decode cX4_ordersBy 6 = .ok (.getfield 28, 3) := by decide +kernel
theorem dX4_ordersBy_9 : decode cX4_ordersBy 9 = .ok (.iconst 1, 1) := by decide +kernel
theorem dX4_ordersBy_10 : decode cX4_ordersBy 10 = .ok (.isub, 1) := by decide +kernel
theorem dX4_ordersBy_11 : decode cX4_ordersBy 11 = .ok (.istore 5, 2) := by decide +kernel
theorem dX4_ordersBy_13 : decode cX4_ordersBy 13 = .ok (.iload 5, 2) := by decide +kernel
theorem dX4_ordersBy_15 : decode cX4_ordersBy 15 = .ok (.ifCond .lt 47, 3) := by decide +kernel
theorem dX4_ordersBy_18 : decode cX4_ordersBy 18 = .ok (.iload_n 2, 1) := by decide +kernel
theorem dX4_ordersBy_19 : decode cX4_ordersBy 19 = .ok (.iconst (-1), 1) := by decide +kernel
theorem dX4_ordersBy_20 : decode cX4_ordersBy 20 = .ok (.if_icmp .ne 8, 3) := by decide +kernel
theorem dX4_ordersBy_23 : decode cX4_ordersBy 23 = .ok (.iload 5, 2) := by decide +kernel
theorem dX4_ordersBy_25 : decode cX4_ordersBy 25 = .ok (.goto 7, 3) := by decide +kernel
theorem dX4_ordersBy_28 : decode cX4_ordersBy 28 = .ok (.iload_n 3, 1) := by decide +kernel
theorem dX4_ordersBy_29 : decode cX4_ordersBy 29 = .ok (.bipush 7, 2) := by decide +kernel
theorem dX4_ordersBy_31 : decode cX4_ordersBy 31 = .ok (.iand, 1) := by decide +kernel
theorem dX4_ordersBy_32 : decode cX4_ordersBy 32 = .ok (.istore 6, 2) := by decide +kernel
theorem dX4_ordersBy_34 : decode cX4_ordersBy 34 = .ok (.iload_n 3, 1) := by decide +kernel
theorem dX4_ordersBy_35 : decode cX4_ordersBy 35 = .ok (.iconst 3, 1) := by decide +kernel
theorem dX4_ordersBy_36 : decode cX4_ordersBy 36 = .ok (.iushr, 1) := by decide +kernel
theorem dX4_ordersBy_37 : decode cX4_ordersBy 37 = .ok (.istore_n 3, 1) := by decide +kernel
theorem dX4_ordersBy_38 : decode cX4_ordersBy 38 = .ok (.aload_n 0, 1) := by decide +kernel
theorem dX4_ordersBy_39 : decode cX4_ordersBy 39 = .ok (.getfield 9, 3) := by decide +kernel
theorem dX4_ordersBy_42 : decode cX4_ordersBy 42 = .ok (.iload 5, 2) := by decide +kernel
theorem dX4_ordersBy_44 : decode cX4_ordersBy 44 = .ok (.iload 6, 2) := by decide +kernel
theorem dX4_ordersBy_46 : decode cX4_ordersBy 46 = .ok (.iastore, 1) := by decide +kernel
theorem dX4_ordersBy_47 : decode cX4_ordersBy 47 = .ok (.iload 4, 2) := by decide +kernel
theorem dX4_ordersBy_49 : decode cX4_ordersBy 49 = .ok (.iconst 1, 1) := by decide +kernel
theorem dX4_ordersBy_50 : decode cX4_ordersBy 50 = .ok (.iload 6, 2) := by decide +kernel
theorem dX4_ordersBy_52 : decode cX4_ordersBy 52 = .ok (.ishl, 1) := by decide +kernel
theorem dX4_ordersBy_53 : decode cX4_ordersBy 53 = .ok (.ior, 1) := by decide +kernel
theorem dX4_ordersBy_54 : decode cX4_ordersBy 54 = .ok (.istore 4, 2) := by decide +kernel
theorem dX4_ordersBy_56 : decode cX4_ordersBy 56 = .ok (.iinc 5 (-1), 3) := by decide +kernel
theorem dX4_ordersBy_59 : decode cX4_ordersBy 59 = .ok (.goto (-46), 3) := by decide +kernel
theorem dX4_ordersBy_62 : decode cX4_ordersBy 62 = .ok (.iload 4, 2) := by decide +kernel
theorem dX4_ordersBy_64 : decode cX4_ordersBy 64 = .ok (.iconst 1, 1) := by decide +kernel
theorem dX4_ordersBy_65 : decode cX4_ordersBy 65 = .ok (.aload_n 1, 1) := by decide +kernel
theorem dX4_ordersBy_66 : decode cX4_ordersBy 66 = .ok (.getfield 28, 3) := by decide +kernel
theorem dX4_ordersBy_69 : decode cX4_ordersBy 69 = .ok (.ishl, 1) := by decide +kernel
theorem dX4_ordersBy_70 : decode cX4_ordersBy 70 = .ok (.iconst 1, 1) := by decide +kernel
theorem dX4_ordersBy_71 : decode cX4_ordersBy 71 = .ok (.isub, 1) := by decide +kernel
theorem dX4_ordersBy_72 : decode cX4_ordersBy 72 = .ok (.if_icmp .ne 16, 3) := by decide +kernel
theorem dX4_ordersBy_75 : decode cX4_ordersBy 75 = .ok (.iload_n 2, 1) := by decide +kernel
theorem dX4_ordersBy_76 : decode cX4_ordersBy 76 = .ok (.iconst (-1), 1) := by decide +kernel
theorem dX4_ordersBy_77 : decode cX4_ordersBy 77 = .ok (.if_icmp .eq 7, 3) := by decide +kernel
theorem dX4_ordersBy_80 : decode cX4_ordersBy 80 = .ok (.iload_n 3, 1) := by decide +kernel
theorem dX4_ordersBy_81 : decode cX4_ordersBy 81 = .ok (.ifCond .ne 7, 3) := by decide +kernel
theorem dX4_ordersBy_84 : decode cX4_ordersBy 84 = .ok (.iconst 1, 1) := by decide +kernel
theorem dX4_ordersBy_85 : decode cX4_ordersBy 85 = .ok (.goto 4, 3) := by decide +kernel
theorem dX4_ordersBy_88 : decode cX4_ordersBy 88 = .ok (.iconst 0, 1) := by decide +kernel
theorem dX4_ordersBy_89 : decode cX4_ordersBy 89 = .ok (.ireturn, 1) := by decide +kernel
theorem dX4_ofWhat_0 : decode cX4_ofWhat 0 = .ok (.aload_n 1, 1) := by decide +kernel
theorem dX4_ofWhat_1 : decode cX4_ofWhat 1 = .ok (.getfield 28, 3) := by decide +kernel
theorem dX4_ofWhat_4 : decode cX4_ofWhat 4 = .ok (.iconst 1, 1) := by decide +kernel
theorem dX4_ofWhat_5 : decode cX4_ofWhat 5 = .ok (.isub, 1) := by decide +kernel
theorem dX4_ofWhat_6 : decode cX4_ofWhat 6 = .ok (.istore 4, 2) := by decide +kernel
theorem dX4_ofWhat_8 : decode cX4_ofWhat 8 = .ok (.aload_n 0, 1) := by decide +kernel
theorem dX4_ofWhat_9 : decode cX4_ofWhat 9 = .ok (.aload_n 1, 1) := by decide +kernel
theorem dX4_ofWhat_10 : decode cX4_ofWhat 10 = .ok (.iload_n 2, 1) := by decide +kernel
theorem dX4_ofWhat_11 : decode cX4_ofWhat 11 = .ok (.iconst 1, 1) := by decide +kernel
theorem dX4_ofWhat_12 : decode cX4_ofWhat 12 = .ok (.aload_n 1, 1) := by decide +kernel
theorem dX4_ofWhat_13 : decode cX4_ofWhat 13 = .ok (.getfield 28, 3) := by decide +kernel
theorem dX4_ofWhat_16 : decode cX4_ofWhat 16 = .ok (.ishl, 1) := by decide +kernel
theorem dX4_ofWhat_17 : decode cX4_ofWhat 17 = .ok (.iconst 1, 1) := by decide +kernel
theorem dX4_ofWhat_18 : decode cX4_ofWhat 18 = .ok (.isub, 1) := by decide +kernel
theorem dX4_ofWhat_19 : decode cX4_ofWhat 19 = .ok (.invokevirtual 44, 3) := by decide +kernel
theorem dX4_ofWhat_22 : decode cX4_ofWhat 22 = .ok (.lstore 5, 2) := by decide +kernel
theorem dX4_ofWhat_24 : decode cX4_ofWhat 24 = .ok (.iload_n 3, 1) := by decide +kernel
theorem dX4_ofWhat_25 : decode cX4_ofWhat 25 = .ok (.iconst 1, 1) := by decide +kernel
theorem dX4_ofWhat_26 : decode cX4_ofWhat 26 = .ok (.if_icmp .ne 6, 3) := by decide +kernel
theorem dX4_ofWhat_29 : decode cX4_ofWhat 29 = .ok (.lload 5, 2) := by decide +kernel
theorem dX4_ofWhat_31 : decode cX4_ofWhat 31 = .ok (.lreturn, 1) := by decide +kernel
theorem dX4_ofWhat_32 : decode cX4_ofWhat 32 = .ok (.iload_n 3, 1) := by decide +kernel
theorem dX4_ofWhat_33 : decode cX4_ofWhat 33 = .ok (.ifCond .ne 16, 3) := by decide +kernel
theorem dX4_ofWhat_36 : decode cX4_ofWhat 36 = .ok (.aload_n 0, 1) := by decide +kernel
theorem dX4_ofWhat_37 : decode cX4_ofWhat 37 = .ok (.aload_n 1, 1) := by decide +kernel
theorem dX4_ofWhat_38 : decode cX4_ofWhat 38 = .ok (.iload_n 2, 1) := by decide +kernel
theorem dX4_ofWhat_39 : decode cX4_ofWhat 39 = .ok (.aload_n 0, 1) := by decide +kernel
theorem dX4_ofWhat_40 : decode cX4_ofWhat 40 = .ok (.iload 4, 2) := by decide +kernel
theorem dX4_ofWhat_42 : decode cX4_ofWhat 42 = .ok (.invokevirtual 48, 3) := by decide +kernel
theorem dX4_ofWhat_45 : decode cX4_ofWhat 45 = .ok (.invokevirtual 44, 3) := by decide +kernel
theorem dX4_ofWhat_48 : decode cX4_ofWhat 48 = .ok (.lreturn, 1) := by decide +kernel
theorem dX4_ofWhat_49 : decode cX4_ofWhat 49 = .ok (.iload_n 3, 1) := by decide +kernel
theorem dX4_ofWhat_50 : decode cX4_ofWhat 50 = .ok (.iconst 2, 1) := by decide +kernel
theorem dX4_ofWhat_51 : decode cX4_ofWhat 51 = .ok (.if_icmp .ne 19, 3) := by decide +kernel
theorem dX4_ofWhat_54 : decode cX4_ofWhat 54 = .ok (.aload_n 0, 1) := by decide +kernel
theorem dX4_ofWhat_55 : decode cX4_ofWhat 55 = .ok (.aload_n 1, 1) := by decide +kernel
theorem dX4_ofWhat_56 : decode cX4_ofWhat 56 = .ok (.iload_n 2, 1) := by decide +kernel
theorem dX4_ofWhat_57 : decode cX4_ofWhat 57 = .ok (.aload_n 0, 1) := by decide +kernel
theorem dX4_ofWhat_58 : decode cX4_ofWhat 58 = .ok (.iload 4, 2) := by decide +kernel
theorem dX4_ofWhat_60 : decode cX4_ofWhat 60 = .ok (.invokevirtual 48, 3) := by decide +kernel
theorem dX4_ofWhat_63 : decode cX4_ofWhat 63 = .ok (.invokevirtual 44, 3) := by decide +kernel
theorem dX4_ofWhat_66 : decode cX4_ofWhat 66 = .ok (.lload 5, 2) := by decide +kernel
theorem dX4_ofWhat_68 : decode cX4_ofWhat 68 = .ok (.lsub, 1) := by decide +kernel
theorem dX4_ofWhat_69 : decode cX4_ofWhat 69 = .ok (.lreturn, 1) := by decide +kernel
theorem dX4_ofWhat_70 : decode cX4_ofWhat 70 = .ok (.iload_n 3, 1) := by decide +kernel
theorem dX4_ofWhat_71 : decode cX4_ofWhat 71 = .ok (.bipush 10, 2) := by decide +kernel
theorem dX4_ofWhat_73 : decode cX4_ofWhat 73 = .ok (.if_icmp .lt 14, 3) := by decide +kernel
theorem dX4_ofWhat_76 : decode cX4_ofWhat 76 = .ok (.iload_n 3, 1) := by decide +kernel
theorem dX4_ofWhat_77 : decode cX4_ofWhat 77 = .ok (.bipush 10, 2) := by decide +kernel
theorem dX4_ofWhat_79 : decode cX4_ofWhat 79 = .ok (.aload_n 1, 1) := by decide +kernel
theorem dX4_ofWhat_80 : decode cX4_ofWhat 80 = .ok (.getfield 28, 3) := by decide +kernel
theorem dX4_ofWhat_83 : decode cX4_ofWhat 83 = .ok (.iadd, 1) := by decide +kernel
theorem dX4_ofWhat_84 : decode cX4_ofWhat 84 = .ok (.if_icmp .lt 7, 3) := by decide +kernel
theorem dX4_ofWhat_87 : decode cX4_ofWhat 87 = .ok (.ldc2_w 52, 3) := by decide +kernel
theorem dX4_ofWhat_90 : decode cX4_ofWhat 90 = .ok (.lreturn, 1) := by decide +kernel
theorem dX4_ofWhat_91 : decode cX4_ofWhat 91 = .ok (.aload_n 0, 1) := by decide +kernel
theorem dX4_ofWhat_92 : decode cX4_ofWhat 92 = .ok (.aload_n 1, 1) := by decide +kernel
theorem dX4_ofWhat_93 : decode cX4_ofWhat 93 = .ok (.iload_n 3, 1) := by decide +kernel
theorem dX4_ofWhat_94 : decode cX4_ofWhat 94 = .ok (.bipush 10, 2) := by decide +kernel
theorem dX4_ofWhat_96 : decode cX4_ofWhat 96 = .ok (.isub, 1) := by decide +kernel
theorem dX4_ofWhat_97 : decode cX4_ofWhat 97 = .ok (.invokevirtual 54, 3) := by decide +kernel
theorem dX4_ofWhat_100 : decode cX4_ofWhat 100 = .ok (.istore 7, 2) := by decide +kernel
theorem dX4_ofWhat_102 : decode cX4_ofWhat 102 = .ok (.aload_n 0, 1) := by decide +kernel
theorem dX4_ofWhat_103 : decode cX4_ofWhat 103 = .ok (.aload_n 1, 1) := by decide +kernel
theorem dX4_ofWhat_104 : decode cX4_ofWhat 104 = .ok (.iload_n 2, 1) := by decide +kernel
theorem dX4_ofWhat_105 : decode cX4_ofWhat 105 = .ok (.iload 7, 2) := by decide +kernel
theorem dX4_ofWhat_107 : decode cX4_ofWhat 107 = .ok (.invokevirtual 44, 3) := by decide +kernel
theorem dX4_ofWhat_110 : decode cX4_ofWhat 110 = .ok (.aload_n 0, 1) := by decide +kernel
theorem dX4_ofWhat_111 : decode cX4_ofWhat 111 = .ok (.aload_n 1, 1) := by decide +kernel
theorem dX4_ofWhat_112 : decode cX4_ofWhat 112 = .ok (.iload_n 2, 1) := by decide +kernel
theorem dX4_ofWhat_113 : decode cX4_ofWhat 113 = .ok (.iload 7, 2) := by decide +kernel
theorem dX4_ofWhat_115 : decode cX4_ofWhat 115 = .ok (.iconst 1, 1) := by decide +kernel
theorem dX4_ofWhat_116 : decode cX4_ofWhat 116 = .ok (.iload_n 3, 1) := by decide +kernel
theorem dX4_ofWhat_117 : decode cX4_ofWhat 117 = .ok (.bipush 10, 2) := by decide +kernel
theorem dX4_ofWhat_119 : decode cX4_ofWhat 119 = .ok (.isub, 1) := by decide +kernel
theorem dX4_ofWhat_120 : decode cX4_ofWhat 120 = .ok (.ishl, 1) := by decide +kernel
theorem dX4_ofWhat_121 : decode cX4_ofWhat 121 = .ok (.ior, 1) := by decide +kernel
theorem dX4_ofWhat_122 : decode cX4_ofWhat 122 = .ok (.invokevirtual 44, 3) := by decide +kernel
theorem dX4_ofWhat_125 : decode cX4_ofWhat 125 = .ok (.lsub, 1) := by decide +kernel
theorem dX4_ofWhat_126 : decode cX4_ofWhat 126 = .ok (.lreturn, 1) := by decide +kernel
theorem dX4_bitsAhead_0 : decode cX4_bitsAhead 0 = .ok (.iconst 0, 1) := by decide +kernel
theorem dX4_bitsAhead_1 : decode cX4_bitsAhead 1 = .ok (.istore_n 2, 1) := by decide +kernel
theorem dX4_bitsAhead_2 : decode cX4_bitsAhead 2 = .ok (.iconst 0, 1) := by decide +kernel
theorem dX4_bitsAhead_3 : decode cX4_bitsAhead 3 = .ok (.istore_n 3, 1) := by decide +kernel
theorem dX4_bitsAhead_4 : decode cX4_bitsAhead 4 = .ok (.iload_n 3, 1) := by decide +kernel
theorem dX4_bitsAhead_5 : decode cX4_bitsAhead 5 = .ok (.iload_n 1, 1) := by decide +kernel
theorem dX4_bitsAhead_6 : decode cX4_bitsAhead 6 = .ok (.if_icmp .ge 26, 3) := by decide +kernel
theorem dX4_bitsAhead_9 : decode cX4_bitsAhead 9 = .ok (.iload_n 3, 1) := by decide +kernel
theorem dX4_bitsAhead_10 : decode cX4_bitsAhead 10 = .ok (.bipush 8, 2) := by decide +kernel
theorem dX4_bitsAhead_12 : decode cX4_bitsAhead 12 = .ok (.if_icmp .ge 20, 3) := by decide +kernel
theorem dX4_bitsAhead_15 : decode cX4_bitsAhead 15 = .ok (.iload_n 2, 1) := by decide +kernel
theorem dX4_bitsAhead_16 : decode cX4_bitsAhead 16 = .ok (.iconst 1, 1) := by decide +kernel
theorem dX4_bitsAhead_17 : decode cX4_bitsAhead 17 = .ok (.aload_n 0, 1) := by decide +kernel
theorem dX4_bitsAhead_18 : decode cX4_bitsAhead 18 = .ok (.getfield 9, 3) := by decide +kernel
theorem dX4_bitsAhead_21 : decode cX4_bitsAhead 21 = .ok (.iload_n 3, 1) := by decide +kernel
theorem dX4_bitsAhead_22 : decode cX4_bitsAhead 22 = .ok (.iaload, 1) := by decide +kernel
theorem dX4_bitsAhead_23 : decode cX4_bitsAhead 23 = .ok (.ishl, 1) := by decide +kernel
theorem dX4_bitsAhead_24 : decode cX4_bitsAhead 24 = .ok (.ior, 1) := by decide +kernel
theorem dX4_bitsAhead_25 : decode cX4_bitsAhead 25 = .ok (.istore_n 2, 1) := by decide +kernel
theorem dX4_bitsAhead_26 : decode cX4_bitsAhead 26 = .ok (.iinc 3 1, 3) := by decide +kernel
theorem dX4_bitsAhead_29 : decode cX4_bitsAhead 29 = .ok (.goto (-25), 3) := by decide +kernel
theorem dX4_bitsAhead_32 : decode cX4_bitsAhead 32 = .ok (.iload_n 2, 1) := by decide +kernel
theorem dX4_bitsAhead_33 : decode cX4_bitsAhead 33 = .ok (.ireturn, 1) := by decide +kernel
theorem dX4_bitsAheadOf_0 : decode cX4_bitsAheadOf 0 = .ok (.iconst 0, 1) := by decide +kernel
theorem dX4_bitsAheadOf_1 : decode cX4_bitsAheadOf 1 = .ok (.istore_n 3, 1) := by decide +kernel
theorem dX4_bitsAheadOf_2 : decode cX4_bitsAheadOf 2 = .ok (.iconst 0, 1) := by decide +kernel
theorem dX4_bitsAheadOf_3 : decode cX4_bitsAheadOf 3 = .ok (.istore 4, 2) := by decide +kernel
theorem dX4_bitsAheadOf_5 : decode cX4_bitsAheadOf 5 = .ok (.iload 4, 2) := by decide +kernel
theorem dX4_bitsAheadOf_7 : decode cX4_bitsAheadOf 7 = .ok (.aload_n 1, 1) := by decide +kernel
theorem dX4_bitsAheadOf_8 : decode cX4_bitsAheadOf 8 = .ok (.getfield 28, 3) := by decide +kernel
theorem dX4_bitsAheadOf_11 : decode cX4_bitsAheadOf 11 = .ok (.if_icmp .ge 32, 3) := by decide +kernel
theorem dX4_bitsAheadOf_14 : decode cX4_bitsAheadOf 14 = .ok (.aload_n 0, 1) := by decide +kernel
theorem dX4_bitsAheadOf_15 : decode cX4_bitsAheadOf 15 = .ok (.getfield 9, 3) := by decide +kernel
theorem dX4_bitsAheadOf_18 : decode cX4_bitsAheadOf 18 = .ok (.iload 4, 2) := by decide +kernel
theorem dX4_bitsAheadOf_20 : decode cX4_bitsAheadOf 20 = .ok (.iaload, 1) := by decide +kernel
theorem dX4_bitsAheadOf_21 : decode cX4_bitsAheadOf 21 = .ok (.iload_n 2, 1) := by decide +kernel
theorem dX4_bitsAheadOf_22 : decode cX4_bitsAheadOf 22 = .ok (.if_icmp .eq 21, 3) := by decide +kernel
theorem dX4_bitsAheadOf_25 : decode cX4_bitsAheadOf 25 = .ok (.iload_n 3, 1) := by decide +kernel
theorem dX4_bitsAheadOf_26 : decode cX4_bitsAheadOf 26 = .ok (.iconst 1, 1) := by decide +kernel
theorem dX4_bitsAheadOf_27 : decode cX4_bitsAheadOf 27 = .ok (.aload_n 0, 1) := by decide +kernel
theorem dX4_bitsAheadOf_28 : decode cX4_bitsAheadOf 28 = .ok (.getfield 9, 3) := by decide +kernel
theorem dX4_bitsAheadOf_31 : decode cX4_bitsAheadOf 31 = .ok (.iload 4, 2) := by decide +kernel
theorem dX4_bitsAheadOf_33 : decode cX4_bitsAheadOf 33 = .ok (.iaload, 1) := by decide +kernel
theorem dX4_bitsAheadOf_34 : decode cX4_bitsAheadOf 34 = .ok (.ishl, 1) := by decide +kernel
theorem dX4_bitsAheadOf_35 : decode cX4_bitsAheadOf 35 = .ok (.ior, 1) := by decide +kernel
theorem dX4_bitsAheadOf_36 : decode cX4_bitsAheadOf 36 = .ok (.istore_n 3, 1) := by decide +kernel
theorem dX4_bitsAheadOf_37 : decode cX4_bitsAheadOf 37 = .ok (.iinc 4 1, 3) := by decide +kernel
theorem dX4_bitsAheadOf_40 : decode cX4_bitsAheadOf 40 = .ok (.goto (-35), 3) := by decide +kernel
theorem dX4_bitsAheadOf_43 : decode cX4_bitsAheadOf 43 = .ok (.iload_n 3, 1) := by decide +kernel
theorem dX4_bitsAheadOf_44 : decode cX4_bitsAheadOf 44 = .ok (.ireturn, 1) := by decide +kernel
theorem dX4_holds_0 : decode cX4_holds 0 = .ok (.aload_n 1, 1) := by decide +kernel
theorem dX4_holds_1 : decode cX4_holds 1 = .ok (.getfield 58, 3) := by decide +kernel
theorem dX4_holds_4 : decode cX4_holds 4 = .ok (.iconst 0, 1) := by decide +kernel
theorem dX4_holds_5 : decode cX4_holds 5 = .ok (.iaload, 1) := by decide +kernel
theorem dX4_holds_6 : decode cX4_holds 6 = .ok (.iload_n 2, 1) := by decide +kernel
theorem dX4_holds_7 : decode cX4_holds 7 = .ok (.imul, 1) := by decide +kernel
theorem dX4_holds_8 : decode cX4_holds 8 = .ok (.sipush 136, 3) := by decide +kernel
theorem dX4_holds_11 : decode cX4_holds 11 = .ok (.invokestatic 61, 3) := by decide +kernel
theorem dX4_holds_14 : decode cX4_holds 14 = .ok (.istore 4, 2) := by decide +kernel
theorem dX4_holds_16 : decode cX4_holds 16 = .ok (.iconst 0, 1) := by decide +kernel
theorem dX4_holds_17 : decode cX4_holds 17 = .ok (.istore 5, 2) := by decide +kernel
theorem dX4_holds_19 : decode cX4_holds 19 = .ok (.iload 5, 2) := by decide +kernel
theorem dX4_holds_21 : decode cX4_holds 21 = .ok (.iload 4, 2) := by decide +kernel
theorem dX4_holds_23 : decode cX4_holds 23 = .ok (.if_icmp .gt 25, 3) := by decide +kernel
theorem dX4_holds_26 : decode cX4_holds 26 = .ok (.aload_n 0, 1) := by decide +kernel
theorem dX4_holds_27 : decode cX4_holds 27 = .ok (.getfield 15, 3) := by decide +kernel
theorem dX4_holds_30 : decode cX4_holds 30 = .ok (.iload 5, 2) := by decide +kernel
theorem dX4_holds_32 : decode cX4_holds 32 = .ok (.lconst 0, 1) := by decide +kernel
theorem dX4_holds_33 : decode cX4_holds 33 = .ok (.lastore, 1) := by decide +kernel
theorem dX4_holds_34 : decode cX4_holds 34 = .ok (.aload_n 0, 1) := by decide +kernel
theorem dX4_holds_35 : decode cX4_holds 35 = .ok (.getfield 19, 3) := by decide +kernel
theorem dX4_holds_38 : decode cX4_holds 38 = .ok (.iload 5, 2) := by decide +kernel
theorem dX4_holds_40 : decode cX4_holds 40 = .ok (.lconst 0, 1) := by decide +kernel
theorem dX4_holds_41 : decode cX4_holds 41 = .ok (.lastore, 1) := by decide +kernel
theorem dX4_holds_42 : decode cX4_holds 42 = .ok (.iinc 5 1, 3) := by decide +kernel
theorem dX4_holds_45 : decode cX4_holds 45 = .ok (.goto (-26), 3) := by decide +kernel
theorem dX4_holds_48 : decode cX4_holds 48 = .ok (.aload_n 0, 1) := by decide +kernel
theorem dX4_holds_49 : decode cX4_holds 49 = .ok (.getfield 19, 3) := by decide +kernel
theorem dX4_holds_52 : decode cX4_holds 52 = .ok (.iload 4, 2) := by decide +kernel
theorem dX4_holds_54 : decode cX4_holds 54 = .ok (.lconst 1, 1) := by decide +kernel
theorem dX4_holds_55 : decode cX4_holds 55 = .ok (.lastore, 1) := by decide +kernel
theorem dX4_holds_56 : decode cX4_holds 56 = .ok (.aload_n 1, 1) := by decide +kernel
theorem dX4_holds_57 : decode cX4_holds 57 = .ok (.getfield 28, 3) := by decide +kernel
theorem dX4_holds_60 : decode cX4_holds 60 = .ok (.istore 5, 2) := by decide +kernel
theorem dX4_holds_62 : decode cX4_holds 62 = .ok (.iconst 0, 1) := by decide +kernel
theorem dX4_holds_63 : decode cX4_holds 63 = .ok (.istore 6, 2) := by decide +kernel
theorem dX4_holds_65 : decode cX4_holds 65 = .ok (.iload 6, 2) := by decide +kernel
theorem dX4_holds_67 : decode cX4_holds 67 = .ok (.aload_n 1, 1) := by decide +kernel
theorem dX4_holds_68 : decode cX4_holds 68 = .ok (.getfield 28, 3) := by decide +kernel
theorem dX4_holds_71 : decode cX4_holds 71 = .ok (.if_icmp .ge 31, 3) := by decide +kernel
theorem dX4_holds_74 : decode cX4_holds 74 = .ok (.iload_n 3, 1) := by decide +kernel
theorem dX4_holds_75 : decode cX4_holds 75 = .ok (.iload 6, 2) := by decide +kernel
theorem dX4_holds_77 : decode cX4_holds 77 = .ok (.iushr, 1) := by decide +kernel
theorem dX4_holds_78 : decode cX4_holds 78 = .ok (.iconst 1, 1) := by decide +kernel
theorem dX4_holds_79 : decode cX4_holds 79 = .ok (.iand, 1) := by decide +kernel
theorem dX4_holds_80 : decode cX4_holds 80 = .ok (.iconst 1, 1) := by decide +kernel
theorem dX4_holds_81 : decode cX4_holds 81 = .ok (.if_icmp .ne 15, 3) := by decide +kernel
theorem dX4_holds_84 : decode cX4_holds 84 = .ok (.aload_n 0, 1) := by decide +kernel
theorem dX4_holds_85 : decode cX4_holds 85 = .ok (.aload_n 1, 1) := by decide +kernel
theorem dX4_holds_86 : decode cX4_holds 86 = .ok (.iload 6, 2) := by decide +kernel
theorem dX4_holds_88 : decode cX4_holds 88 = .ok (.iload 4, 2) := by decide +kernel
theorem dX4_holds_90 : decode cX4_holds 90 = .ok (.invokevirtual 67, 3) := by decide +kernel
theorem dX4_holds_93 : decode cX4_holds 93 = .ok (.iinc 5 (-1), 3) := by decide +kernel
theorem dX4_holds_96 : decode cX4_holds 96 = .ok (.iinc 6 1, 3) := by decide +kernel
theorem dX4_holds_99 : decode cX4_holds 99 = .ok (.goto (-34), 3) := by decide +kernel
theorem dX4_holds_102 : decode cX4_holds 102 = .ok (.lconst 0, 1) := by decide +kernel
theorem dX4_holds_103 : decode cX4_holds 103 = .ok (.lstore 6, 2) := by decide +kernel
theorem dX4_holds_105 : decode cX4_holds 105 = .ok (.iconst 1, 1) := by decide +kernel
theorem dX4_holds_106 : decode cX4_holds 106 = .ok (.istore 8, 2) := by decide +kernel
theorem dX4_holds_108 : decode cX4_holds 108 = .ok (.iload 8, 2) := by decide +kernel
theorem dX4_holds_110 : decode cX4_holds 110 = .ok (.iload 4, 2) := by decide +kernel
theorem dX4_holds_112 : decode cX4_holds 112 = .ok (.if_icmp .gt 21, 3) := by decide +kernel
theorem dX4_holds_115 : decode cX4_holds 115 = .ok (.lload 6, 2) := by decide +kernel
theorem dX4_holds_117 : decode cX4_holds 117 = .ok (.aload_n 0, 1) := by decide +kernel
theorem dX4_holds_118 : decode cX4_holds 118 = .ok (.getfield 19, 3) := by decide +kernel
theorem dX4_holds_121 : decode cX4_holds 121 = .ok (.iload 8, 2) := by decide +kernel
theorem dX4_holds_123 : decode cX4_holds 123 = .ok (.laload, 1) := by decide +kernel
theorem dX4_holds_124 : decode cX4_holds 124 = .ok (.ladd, 1) := by decide +kernel
theorem dX4_holds_125 : decode cX4_holds 125 = .ok (.lstore 6, 2) := by decide +kernel
theorem dX4_holds_127 : decode cX4_holds 127 = .ok (.iinc 8 1, 3) := by decide +kernel
theorem dX4_holds_130 : decode cX4_holds 130 = .ok (.goto (-22), 3) := by decide +kernel
theorem dX4_holds_133 : decode cX4_holds 133 = .ok (.lload 6, 2) := by decide +kernel
theorem dX4_holds_135 : decode cX4_holds 135 = .ok (.iload 5, 2) := by decide +kernel
theorem dX4_holds_137 : decode cX4_holds 137 = .ok (.aload_n 1, 1) := by decide +kernel
theorem dX4_holds_138 : decode cX4_holds 138 = .ok (.getfield 34, 3) := by decide +kernel
theorem dX4_holds_141 : decode cX4_holds 141 = .ok (.imul, 1) := by decide +kernel
theorem dX4_holds_142 : decode cX4_holds 142 = .ok (.invokestatic 37, 3) := by decide +kernel
theorem dX4_holds_145 : decode cX4_holds 145 = .ok (.lmul, 1) := by decide +kernel
theorem dX4_holds_146 : decode cX4_holds 146 = .ok (.lreturn, 1) := by decide +kernel
theorem dX4_strikeAll_0 : decode cX4_strikeAll 0 = .ok (.aload_n 1, 1) := by decide +kernel
theorem dX4_strikeAll_1 : decode cX4_strikeAll 1 = .ok (.getfield 71, 3) := by decide +kernel
theorem dX4_strikeAll_4 : decode cX4_strikeAll 4 = .ok (.iload_n 2, 1) := by decide +kernel
theorem dX4_strikeAll_5 : decode cX4_strikeAll 5 = .ok (.iaload, 1) := by decide +kernel
theorem dX4_strikeAll_6 : decode cX4_strikeAll 6 = .ok (.aload_n 1, 1) := by decide +kernel
theorem dX4_strikeAll_7 : decode cX4_strikeAll 7 = .ok (.getfield 74, 3) := by decide +kernel
theorem dX4_strikeAll_10 : decode cX4_strikeAll 10 = .ok (.if_icmp .lt 40, 3) := by decide +kernel
theorem dX4_strikeAll_13 : decode cX4_strikeAll 13 = .ok (.iconst 1, 1) := by decide +kernel
theorem dX4_strikeAll_14 : decode cX4_strikeAll 14 = .ok (.istore 4, 2) := by decide +kernel
theorem dX4_strikeAll_16 : decode cX4_strikeAll 16 = .ok (.iload 4, 2) := by decide +kernel
theorem dX4_strikeAll_18 : decode cX4_strikeAll 18 = .ok (.iload_n 3, 1) := by decide +kernel
theorem dX4_strikeAll_19 : decode cX4_strikeAll 19 = .ok (.if_icmp .gt 31, 3) := by decide +kernel
theorem dX4_strikeAll_22 : decode cX4_strikeAll 22 = .ok (.aload_n 0, 1) := by decide +kernel
theorem dX4_strikeAll_23 : decode cX4_strikeAll 23 = .ok (.getfield 15, 3) := by decide +kernel
theorem dX4_strikeAll_26 : decode cX4_strikeAll 26 = .ok (.iload 4, 2) := by decide +kernel
theorem dX4_strikeAll_28 : decode cX4_strikeAll 28 = .ok (.aload_n 0, 1) := by decide +kernel
theorem dX4_strikeAll_29 : decode cX4_strikeAll 29 = .ok (.getfield 19, 3) := by decide +kernel
theorem dX4_strikeAll_32 : decode cX4_strikeAll 32 = .ok (.iload 4, 2) := by decide +kernel
theorem dX4_strikeAll_34 : decode cX4_strikeAll 34 = .ok (.laload, 1) := by decide +kernel
theorem dX4_strikeAll_35 : decode cX4_strikeAll 35 = .ok (.lastore, 1) := by decide +kernel
theorem dX4_strikeAll_36 : decode cX4_strikeAll 36 = .ok (.aload_n 0, 1) := by decide +kernel
theorem dX4_strikeAll_37 : decode cX4_strikeAll 37 = .ok (.getfield 19, 3) := by decide +kernel
theorem dX4_strikeAll_40 : decode cX4_strikeAll 40 = .ok (.iload 4, 2) := by decide +kernel
theorem dX4_strikeAll_42 : decode cX4_strikeAll 42 = .ok (.lconst 0, 1) := by decide +kernel
theorem dX4_strikeAll_43 : decode cX4_strikeAll 43 = .ok (.lastore, 1) := by decide +kernel
theorem dX4_strikeAll_44 : decode cX4_strikeAll 44 = .ok (.iinc 4 1, 3) := by decide +kernel
theorem dX4_strikeAll_47 : decode cX4_strikeAll 47 = .ok (.goto (-31), 3) := by decide +kernel
theorem dX4_strikeAll_50 : decode cX4_strikeAll 50 = .ok (.iconst 0, 1) := by decide +kernel
theorem dX4_strikeAll_51 : decode cX4_strikeAll 51 = .ok (.istore 4, 2) := by decide +kernel
theorem dX4_strikeAll_53 : decode cX4_strikeAll 53 = .ok (.iload 4, 2) := by decide +kernel
theorem dX4_strikeAll_55 : decode cX4_strikeAll 55 = .ok (.aload_n 1, 1) := by decide +kernel
theorem dX4_strikeAll_56 : decode cX4_strikeAll 56 = .ok (.getfield 34, 3) := by decide +kernel
theorem dX4_strikeAll_59 : decode cX4_strikeAll 59 = .ok (.if_icmp .ge 26, 3) := by decide +kernel
theorem dX4_strikeAll_62 : decode cX4_strikeAll 62 = .ok (.aload_n 0, 1) := by decide +kernel
theorem dX4_strikeAll_63 : decode cX4_strikeAll 63 = .ok (.aload_n 1, 1) := by decide +kernel
theorem dX4_strikeAll_64 : decode cX4_strikeAll 64 = .ok (.getfield 77, 3) := by decide +kernel
theorem dX4_strikeAll_67 : decode cX4_strikeAll 67 = .ok (.iload_n 2, 1) := by decide +kernel
theorem dX4_strikeAll_68 : decode cX4_strikeAll 68 = .ok (.iaload, 1) := by decide +kernel
theorem dX4_strikeAll_69 : decode cX4_strikeAll 69 = .ok (.aload_n 1, 1) := by decide +kernel
theorem dX4_strikeAll_70 : decode cX4_strikeAll 70 = .ok (.getfield 80, 3) := by decide +kernel
theorem dX4_strikeAll_73 : decode cX4_strikeAll 73 = .ok (.iload_n 2, 1) := by decide +kernel
theorem dX4_strikeAll_74 : decode cX4_strikeAll 74 = .ok (.iaload, 1) := by decide +kernel
theorem dX4_strikeAll_75 : decode cX4_strikeAll 75 = .ok (.iload_n 3, 1) := by decide +kernel
theorem dX4_strikeAll_76 : decode cX4_strikeAll 76 = .ok (.invokevirtual 83, 3) := by decide +kernel
theorem dX4_strikeAll_79 : decode cX4_strikeAll 79 = .ok (.iinc 4 1, 3) := by decide +kernel
theorem dX4_strikeAll_82 : decode cX4_strikeAll 82 = .ok (.goto (-29), 3) := by decide +kernel
theorem dX4_strikeAll_85 : decode cX4_strikeAll 85 = .ok (.iconst 1, 1) := by decide +kernel
theorem dX4_strikeAll_86 : decode cX4_strikeAll 86 = .ok (.istore 4, 2) := by decide +kernel
theorem dX4_strikeAll_88 : decode cX4_strikeAll 88 = .ok (.iload 4, 2) := by decide +kernel
theorem dX4_strikeAll_90 : decode cX4_strikeAll 90 = .ok (.iload_n 3, 1) := by decide +kernel
theorem dX4_strikeAll_91 : decode cX4_strikeAll 91 = .ok (.if_icmp .gt 34, 3) := by decide +kernel
theorem dX4_strikeAll_94 : decode cX4_strikeAll 94 = .ok (.aload_n 0, 1) := by decide +kernel
theorem dX4_strikeAll_95 : decode cX4_strikeAll 95 = .ok (.getfield 19, 3) := by decide +kernel
theorem dX4_strikeAll_98 : decode cX4_strikeAll 98 = .ok (.iload 4, 2) := by decide +kernel
theorem dX4_strikeAll_100 : decode cX4_strikeAll 100 = .ok (.dup2, 1) := by decide +kernel
theorem dX4_strikeAll_101 : decode cX4_strikeAll 101 = .ok (.laload, 1) := by decide +kernel
theorem dX4_strikeAll_102 : decode cX4_strikeAll 102 = .ok (.aload_n 0, 1) := by decide +kernel
theorem dX4_strikeAll_103 : decode cX4_strikeAll 103 = .ok (.getfield 15, 3) := by decide +kernel
theorem dX4_strikeAll_106 : decode cX4_strikeAll 106 = .ok (.iload 4, 2) := by decide +kernel
theorem dX4_strikeAll_108 : decode cX4_strikeAll 108 = .ok (.laload, 1) := by decide +kernel
theorem dX4_strikeAll_109 : decode cX4_strikeAll 109 = .ok (.ladd, 1) := by decide +kernel
theorem dX4_strikeAll_110 : decode cX4_strikeAll 110 = .ok (.lastore, 1) := by decide +kernel
theorem dX4_strikeAll_111 : decode cX4_strikeAll 111 = .ok (.aload_n 0, 1) := by decide +kernel
theorem dX4_strikeAll_112 : decode cX4_strikeAll 112 = .ok (.getfield 15, 3) := by decide +kernel
theorem dX4_strikeAll_115 : decode cX4_strikeAll 115 = .ok (.iload 4, 2) := by decide +kernel
theorem dX4_strikeAll_117 : decode cX4_strikeAll 117 = .ok (.lconst 0, 1) := by decide +kernel
theorem dX4_strikeAll_118 : decode cX4_strikeAll 118 = .ok (.lastore, 1) := by decide +kernel
theorem dX4_strikeAll_119 : decode cX4_strikeAll 119 = .ok (.iinc 4 1, 3) := by decide +kernel
theorem dX4_strikeAll_122 : decode cX4_strikeAll 122 = .ok (.goto (-34), 3) := by decide +kernel
theorem dX4_strikeAll_125 : decode cX4_strikeAll 125 = .ok (.return_, 1) := by decide +kernel
theorem dX4_strikeOnce_0 : decode cX4_strikeOnce 0 = .ok (.bipush 10, 2) := by decide +kernel
theorem dX4_strikeOnce_2 : decode cX4_strikeOnce 2 = .ok (.iload_n 1, 1) := by decide +kernel
theorem dX4_strikeOnce_3 : decode cX4_strikeOnce 3 = .ok (.isub, 1) := by decide +kernel
theorem dX4_strikeOnce_4 : decode cX4_strikeOnce 4 = .ok (.istore 4, 2) := by decide +kernel
theorem dX4_strikeOnce_6 : decode cX4_strikeOnce 6 = .ok (.iconst 1, 1) := by decide +kernel
theorem dX4_strikeOnce_7 : decode cX4_strikeOnce 7 = .ok (.istore 5, 2) := by decide +kernel
theorem dX4_strikeOnce_9 : decode cX4_strikeOnce 9 = .ok (.iload 5, 2) := by decide +kernel
theorem dX4_strikeOnce_11 : decode cX4_strikeOnce 11 = .ok (.iload_n 3, 1) := by decide +kernel
theorem dX4_strikeOnce_12 : decode cX4_strikeOnce 12 = .ok (.if_icmp .gt 78, 3) := by decide +kernel
theorem dX4_strikeOnce_15 : decode cX4_strikeOnce 15 = .ok (.aload_n 0, 1) := by decide +kernel
theorem dX4_strikeOnce_16 : decode cX4_strikeOnce 16 = .ok (.getfield 19, 3) := by decide +kernel
theorem dX4_strikeOnce_19 : decode cX4_strikeOnce 19 = .ok (.iload 5, 2) := by decide +kernel
theorem dX4_strikeOnce_21 : decode cX4_strikeOnce 21 = .ok (.laload, 1) := by decide +kernel
theorem dX4_strikeOnce_22 : decode cX4_strikeOnce 22 = .ok (.lstore 6, 2) := by decide +kernel
theorem dX4_strikeOnce_24 : decode cX4_strikeOnce 24 = .ok (.aload_n 0, 1) := by decide +kernel
theorem dX4_strikeOnce_25 : decode cX4_strikeOnce 25 = .ok (.getfield 19, 3) := by decide +kernel
theorem dX4_strikeOnce_28 : decode cX4_strikeOnce 28 = .ok (.iload 5, 2) := by decide +kernel
theorem dX4_strikeOnce_30 : decode cX4_strikeOnce 30 = .ok (.lload 6, 2) := by decide +kernel
theorem dX4_strikeOnce_32 : decode cX4_strikeOnce 32 = .ok (.iload 4, 2) := by decide +kernel
theorem dX4_strikeOnce_34 : decode cX4_strikeOnce 34 = .ok (.i2l, 1) := by decide +kernel
theorem dX4_strikeOnce_35 : decode cX4_strikeOnce 35 = .ok (.lmul, 1) := by decide +kernel
theorem dX4_strikeOnce_36 : decode cX4_strikeOnce 36 = .ok (.aload_n 0, 1) := by decide +kernel
theorem dX4_strikeOnce_37 : decode cX4_strikeOnce 37 = .ok (.getfield 15, 3) := by decide +kernel
theorem dX4_strikeOnce_40 : decode cX4_strikeOnce 40 = .ok (.iload 5, 2) := by decide +kernel
theorem dX4_strikeOnce_42 : decode cX4_strikeOnce 42 = .ok (.laload, 1) := by decide +kernel
theorem dX4_strikeOnce_43 : decode cX4_strikeOnce 43 = .ok (.iload_n 1, 1) := by decide +kernel
theorem dX4_strikeOnce_44 : decode cX4_strikeOnce 44 = .ok (.i2l, 1) := by decide +kernel
theorem dX4_strikeOnce_45 : decode cX4_strikeOnce 45 = .ok (.lmul, 1) := by decide +kernel
theorem dX4_strikeOnce_46 : decode cX4_strikeOnce 46 = .ok (.ladd, 1) := by decide +kernel
theorem dX4_strikeOnce_47 : decode cX4_strikeOnce 47 = .ok (.lastore, 1) := by decide +kernel
theorem dX4_strikeOnce_48 : decode cX4_strikeOnce 48 = .ok (.aload_n 0, 1) := by decide +kernel
theorem dX4_strikeOnce_49 : decode cX4_strikeOnce 49 = .ok (.getfield 15, 3) := by decide +kernel
theorem dX4_strikeOnce_52 : decode cX4_strikeOnce 52 = .ok (.iload 5, 2) := by decide +kernel
theorem dX4_strikeOnce_54 : decode cX4_strikeOnce 54 = .ok (.dup2, 1) := by decide +kernel
theorem dX4_strikeOnce_55 : decode cX4_strikeOnce 55 = .ok (.laload, 1) := by decide +kernel
theorem dX4_strikeOnce_56 : decode cX4_strikeOnce 56 = .ok (.iload 4, 2) := by decide +kernel
theorem dX4_strikeOnce_58 : decode cX4_strikeOnce 58 = .ok (.i2l, 1) := by decide +kernel
theorem dX4_strikeOnce_59 : decode cX4_strikeOnce 59 = .ok (.lmul, 1) := by decide +kernel
theorem dX4_strikeOnce_60 : decode cX4_strikeOnce 60 = .ok (.lastore, 1) := by decide +kernel
theorem dX4_strikeOnce_61 : decode cX4_strikeOnce 61 = .ok (.iload 5, 2) := by decide +kernel
theorem dX4_strikeOnce_63 : decode cX4_strikeOnce 63 = .ok (.iload_n 2, 1) := by decide +kernel
theorem dX4_strikeOnce_64 : decode cX4_strikeOnce 64 = .ok (.if_icmp .le 20, 3) := by decide +kernel
theorem dX4_strikeOnce_67 : decode cX4_strikeOnce 67 = .ok (.aload_n 0, 1) := by decide +kernel
theorem dX4_strikeOnce_68 : decode cX4_strikeOnce 68 = .ok (.getfield 19, 3) := by decide +kernel
theorem dX4_strikeOnce_71 : decode cX4_strikeOnce 71 = .ok (.iload 5, 2) := by decide +kernel
theorem dX4_strikeOnce_73 : decode cX4_strikeOnce 73 = .ok (.iload_n 2, 1) := by decide +kernel
theorem dX4_strikeOnce_74 : decode cX4_strikeOnce 74 = .ok (.isub, 1) := by decide +kernel
theorem dX4_strikeOnce_75 : decode cX4_strikeOnce 75 = .ok (.dup2, 1) := by decide +kernel
theorem dX4_strikeOnce_76 : decode cX4_strikeOnce 76 = .ok (.laload, 1) := by decide +kernel
theorem dX4_strikeOnce_77 : decode cX4_strikeOnce 77 = .ok (.lload 6, 2) := by decide +kernel
theorem dX4_strikeOnce_79 : decode cX4_strikeOnce 79 = .ok (.iload_n 1, 1) := by decide +kernel
theorem dX4_strikeOnce_80 : decode cX4_strikeOnce 80 = .ok (.i2l, 1) := by decide +kernel
theorem dX4_strikeOnce_81 : decode cX4_strikeOnce 81 = .ok (.lmul, 1) := by decide +kernel
theorem dX4_strikeOnce_82 : decode cX4_strikeOnce 82 = .ok (.ladd, 1) := by decide +kernel
theorem dX4_strikeOnce_83 : decode cX4_strikeOnce 83 = .ok (.lastore, 1) := by decide +kernel
theorem dX4_strikeOnce_84 : decode cX4_strikeOnce 84 = .ok (.iinc 5 1, 3) := by decide +kernel
theorem dX4_strikeOnce_87 : decode cX4_strikeOnce 87 = .ok (.goto (-78), 3) := by decide +kernel
theorem dX4_strikeOnce_90 : decode cX4_strikeOnce 90 = .ok (.return_, 1) := by decide +kernel
theorem dX4_fairest_0 : decode cX4_fairest 0 = .ok (.iconst 0, 1) := by decide +kernel
theorem dX4_fairest_1 : decode cX4_fairest 1 = .ok (.istore_n 2, 1) := by decide +kernel
theorem dX4_fairest_2 : decode cX4_fairest 2 = .ok (.iload_n 2, 1) := by decide +kernel
theorem dX4_fairest_3 : decode cX4_fairest 3 = .ok (.iconst 1, 1) := by decide +kernel
theorem dX4_fairest_4 : decode cX4_fairest 4 = .ok (.aload_n 1, 1) := by decide +kernel
theorem dX4_fairest_5 : decode cX4_fairest 5 = .ok (.getfield 28, 3) := by decide +kernel
theorem dX4_fairest_8 : decode cX4_fairest 8 = .ok (.ishl, 1) := by decide +kernel
theorem dX4_fairest_9 : decode cX4_fairest 9 = .ok (.if_icmp .ge 31, 3) := by decide +kernel
theorem dX4_fairest_12 : decode cX4_fairest 12 = .ok (.iload_n 2, 1) := by decide +kernel
theorem dX4_fairest_13 : decode cX4_fairest 13 = .ok (.aload_n 0, 1) := by decide +kernel
theorem dX4_fairest_14 : decode cX4_fairest 14 = .ok (.getfield 22, 3) := by decide +kernel
theorem dX4_fairest_17 : decode cX4_fairest 17 = .ok (.arraylength, 1) := by decide +kernel
theorem dX4_fairest_18 : decode cX4_fairest 18 = .ok (.if_icmp .ge 22, 3) := by decide +kernel
theorem dX4_fairest_21 : decode cX4_fairest 21 = .ok (.aload_n 0, 1) := by decide +kernel
theorem dX4_fairest_22 : decode cX4_fairest 22 = .ok (.getfield 22, 3) := by decide +kernel
theorem dX4_fairest_25 : decode cX4_fairest 25 = .ok (.iload_n 2, 1) := by decide +kernel
theorem dX4_fairest_26 : decode cX4_fairest 26 = .ok (.aload_n 0, 1) := by decide +kernel
theorem dX4_fairest_27 : decode cX4_fairest 27 = .ok (.aload_n 1, 1) := by decide +kernel
theorem dX4_fairest_28 : decode cX4_fairest 28 = .ok (.iconst 1, 1) := by decide +kernel
theorem dX4_fairest_29 : decode cX4_fairest 29 = .ok (.iload_n 2, 1) := by decide +kernel
theorem dX4_fairest_30 : decode cX4_fairest 30 = .ok (.invokevirtual 44, 3) := by decide +kernel
theorem dX4_fairest_33 : decode cX4_fairest 33 = .ok (.lastore, 1) := by decide +kernel
theorem dX4_fairest_34 : decode cX4_fairest 34 = .ok (.iinc 2 1, 3) := by decide +kernel
theorem dX4_fairest_37 : decode cX4_fairest 37 = .ok (.goto (-35), 3) := by decide +kernel
theorem dX4_fairest_40 : decode cX4_fairest 40 = .ok (.aload_n 0, 1) := by decide +kernel
theorem dX4_fairest_41 : decode cX4_fairest 41 = .ok (.aload_n 1, 1) := by decide +kernel
theorem dX4_fairest_42 : decode cX4_fairest 42 = .ok (.iconst (-1), 1) := by decide +kernel
theorem dX4_fairest_43 : decode cX4_fairest 43 = .ok (.invokevirtual 87, 3) := by decide +kernel
theorem dX4_fairest_46 : decode cX4_fairest 46 = .ok (.pop, 1) := by decide +kernel
theorem dX4_fairest_47 : decode cX4_fairest 47 = .ok (.aload_n 0, 1) := by decide +kernel
theorem dX4_fairest_48 : decode cX4_fairest 48 = .ok (.aload_n 1, 1) := by decide +kernel
theorem dX4_fairest_49 : decode cX4_fairest 49 = .ok (.invokevirtual 91, 3) := by decide +kernel
theorem dX4_fairest_52 : decode cX4_fairest 52 = .ok (.istore_n 2, 1) := by decide +kernel
theorem dX4_fairest_53 : decode cX4_fairest 53 = .ok (.aload_n 0, 1) := by decide +kernel
theorem dX4_fairest_54 : decode cX4_fairest 54 = .ok (.aload_n 1, 1) := by decide +kernel
theorem dX4_fairest_55 : decode cX4_fairest 55 = .ok (.invokevirtual 95, 3) := by decide +kernel
theorem dX4_fairest_58 : decode cX4_fairest 58 = .ok (.lstore_n 3, 1) := by decide +kernel
theorem dX4_fairest_59 : decode cX4_fairest 59 = .ok (.iconst 1, 1) := by decide +kernel
theorem dX4_fairest_60 : decode cX4_fairest 60 = .ok (.istore 5, 2) := by decide +kernel
theorem dX4_fairest_62 : decode cX4_fairest 62 = .ok (.iload 5, 2) := by decide +kernel
theorem dX4_fairest_64 : decode cX4_fairest 64 = .ok (.bipush 120, 2) := by decide +kernel
theorem dX4_fairest_66 : decode cX4_fairest 66 = .ok (.if_icmp .ge 40, 3) := by decide +kernel
theorem dX4_fairest_69 : decode cX4_fairest 69 = .ok (.aload_n 0, 1) := by decide +kernel
theorem dX4_fairest_70 : decode cX4_fairest 70 = .ok (.aload_n 1, 1) := by decide +kernel
theorem dX4_fairest_71 : decode cX4_fairest 71 = .ok (.invokevirtual 99, 3) := by decide +kernel
theorem dX4_fairest_74 : decode cX4_fairest 74 = .ok (.ifCond .eq 32, 3) := by decide +kernel
theorem dX4_fairest_77 : decode cX4_fairest 77 = .ok (.aload_n 0, 1) := by decide +kernel
theorem dX4_fairest_78 : decode cX4_fairest 78 = .ok (.aload_n 1, 1) := by decide +kernel
theorem dX4_fairest_79 : decode cX4_fairest 79 = .ok (.invokevirtual 95, 3) := by decide +kernel
theorem dX4_fairest_82 : decode cX4_fairest 82 = .ok (.lstore 6, 2) := by decide +kernel
theorem dX4_fairest_84 : decode cX4_fairest 84 = .ok (.lload 6, 2) := by decide +kernel
theorem dX4_fairest_86 : decode cX4_fairest 86 = .ok (.lload_n 3, 1) := by decide +kernel
theorem dX4_fairest_87 : decode cX4_fairest 87 = .ok (.lcmp, 1) := by decide +kernel
theorem dX4_fairest_88 : decode cX4_fairest 88 = .ok (.ifCond .ge 12, 3) := by decide +kernel
theorem dX4_fairest_91 : decode cX4_fairest 91 = .ok (.aload_n 0, 1) := by decide +kernel
theorem dX4_fairest_92 : decode cX4_fairest 92 = .ok (.aload_n 1, 1) := by decide +kernel
theorem dX4_fairest_93 : decode cX4_fairest 93 = .ok (.invokevirtual 91, 3) := by decide +kernel
theorem dX4_fairest_96 : decode cX4_fairest 96 = .ok (.istore_n 2, 1) := by decide +kernel
theorem dX4_fairest_97 : decode cX4_fairest 97 = .ok (.lload 6, 2) := by decide +kernel
theorem dX4_fairest_99 : decode cX4_fairest 99 = .ok (.lstore_n 3, 1) := by decide +kernel
theorem dX4_fairest_100 : decode cX4_fairest 100 = .ok (.iinc 5 1, 3) := by decide +kernel
theorem dX4_fairest_103 : decode cX4_fairest 103 = .ok (.goto (-41), 3) := by decide +kernel
theorem dX4_fairest_106 : decode cX4_fairest 106 = .ok (.iload_n 2, 1) := by decide +kernel
theorem dX4_fairest_107 : decode cX4_fairest 107 = .ok (.ireturn, 1) := by decide +kernel
theorem dX4_orderOfRow_0 : decode cX4_orderOfRow 0 = .ok (.iconst 0, 1) := by decide +kernel
theorem dX4_orderOfRow_1 : decode cX4_orderOfRow 1 = .ok (.istore_n 2, 1) := by decide +kernel
theorem dX4_orderOfRow_2 : decode cX4_orderOfRow 2 = .ok (.iconst 0, 1) := by decide +kernel
theorem dX4_orderOfRow_3 : decode cX4_orderOfRow 3 = .ok (.istore_n 3, 1) := by decide +kernel
theorem dX4_orderOfRow_4 : decode cX4_orderOfRow 4 = .ok (.iload_n 3, 1) := by decide +kernel
theorem dX4_orderOfRow_5 : decode cX4_orderOfRow 5 = .ok (.aload_n 1, 1) := by decide +kernel
theorem dX4_orderOfRow_6 : decode cX4_orderOfRow 6 = .ok (.getfield 28, 3) := by decide +kernel
theorem dX4_orderOfRow_9 : decode cX4_orderOfRow 9 = .ok (.if_icmp .ge 21, 3) := by decide +kernel
theorem dX4_orderOfRow_12 : decode cX4_orderOfRow 12 = .ok (.iload_n 2, 1) := by decide +kernel
theorem dX4_orderOfRow_13 : decode cX4_orderOfRow 13 = .ok (.bipush 8, 2) := by decide +kernel
theorem dX4_orderOfRow_15 : decode cX4_orderOfRow 15 = .ok (.imul, 1) := by decide +kernel
theorem dX4_orderOfRow_16 : decode cX4_orderOfRow 16 = .ok (.aload_n 0, 1) := by decide +kernel
theorem dX4_orderOfRow_17 : decode cX4_orderOfRow 17 = .ok (.getfield 9, 3) := by decide +kernel
theorem dX4_orderOfRow_20 : decode cX4_orderOfRow 20 = .ok (.iload_n 3, 1) := by decide +kernel
theorem dX4_orderOfRow_21 : decode cX4_orderOfRow 21 = .ok (.iaload, 1) := by decide +kernel
theorem dX4_orderOfRow_22 : decode cX4_orderOfRow 22 = .ok (.iadd, 1) := by decide +kernel
theorem dX4_orderOfRow_23 : decode cX4_orderOfRow 23 = .ok (.istore_n 2, 1) := by decide +kernel
theorem dX4_orderOfRow_24 : decode cX4_orderOfRow 24 = .ok (.iinc 3 1, 3) := by decide +kernel
theorem dX4_orderOfRow_27 : decode cX4_orderOfRow 27 = .ok (.goto (-23), 3) := by decide +kernel
theorem dX4_orderOfRow_30 : decode cX4_orderOfRow 30 = .ok (.iload_n 2, 1) := by decide +kernel
theorem dX4_orderOfRow_31 : decode cX4_orderOfRow 31 = .ok (.ireturn, 1) := by decide +kernel
theorem dX4_gapOfRow_0 : decode cX4_gapOfRow 0 = .ok (.lconst 0, 1) := by decide +kernel
theorem dX4_gapOfRow_1 : decode cX4_gapOfRow 1 = .ok (.lstore_n 2, 1) := by decide +kernel
theorem dX4_gapOfRow_2 : decode cX4_gapOfRow 2 = .ok (.aload_n 0, 1) := by decide +kernel
theorem dX4_gapOfRow_3 : decode cX4_gapOfRow 3 = .ok (.aload_n 1, 1) := by decide +kernel
theorem dX4_gapOfRow_4 : decode cX4_gapOfRow 4 = .ok (.invokevirtual 103, 3) := by decide +kernel
theorem dX4_gapOfRow_7 : decode cX4_gapOfRow 7 = .ok (.lstore 4, 2) := by decide +kernel
theorem dX4_gapOfRow_9 : decode cX4_gapOfRow 9 = .ok (.iconst 0, 1) := by decide +kernel
theorem dX4_gapOfRow_10 : decode cX4_gapOfRow 10 = .ok (.istore 6, 2) := by decide +kernel
theorem dX4_gapOfRow_12 : decode cX4_gapOfRow 12 = .ok (.iconst 0, 1) := by decide +kernel
theorem dX4_gapOfRow_13 : decode cX4_gapOfRow 13 = .ok (.istore 7, 2) := by decide +kernel
theorem dX4_gapOfRow_15 : decode cX4_gapOfRow 15 = .ok (.iload 7, 2) := by decide +kernel
theorem dX4_gapOfRow_17 : decode cX4_gapOfRow 17 = .ok (.aload_n 1, 1) := by decide +kernel
theorem dX4_gapOfRow_18 : decode cX4_gapOfRow 18 = .ok (.getfield 28, 3) := by decide +kernel
theorem dX4_gapOfRow_21 : decode cX4_gapOfRow 21 = .ok (.if_icmp .ge 70, 3) := by decide +kernel
theorem dX4_gapOfRow_24 : decode cX4_gapOfRow 24 = .ok (.iload 6, 2) := by decide +kernel
theorem dX4_gapOfRow_26 : decode cX4_gapOfRow 26 = .ok (.iconst 1, 1) := by decide +kernel
theorem dX4_gapOfRow_27 : decode cX4_gapOfRow 27 = .ok (.aload_n 0, 1) := by decide +kernel
theorem dX4_gapOfRow_28 : decode cX4_gapOfRow 28 = .ok (.getfield 9, 3) := by decide +kernel
theorem dX4_gapOfRow_31 : decode cX4_gapOfRow 31 = .ok (.iload 7, 2) := by decide +kernel
theorem dX4_gapOfRow_33 : decode cX4_gapOfRow 33 = .ok (.iaload, 1) := by decide +kernel
theorem dX4_gapOfRow_34 : decode cX4_gapOfRow 34 = .ok (.ishl, 1) := by decide +kernel
theorem dX4_gapOfRow_35 : decode cX4_gapOfRow 35 = .ok (.ior, 1) := by decide +kernel
theorem dX4_gapOfRow_36 : decode cX4_gapOfRow 36 = .ok (.istore 8, 2) := by decide +kernel
theorem dX4_gapOfRow_38 : decode cX4_gapOfRow 38 = .ok (.iload 8, 2) := by decide +kernel
theorem dX4_gapOfRow_40 : decode cX4_gapOfRow 40 = .ok (.aload_n 0, 1) := by decide +kernel
theorem dX4_gapOfRow_41 : decode cX4_gapOfRow 41 = .ok (.getfield 22, 3) := by decide +kernel
theorem dX4_gapOfRow_44 : decode cX4_gapOfRow 44 = .ok (.arraylength, 1) := by decide +kernel
theorem dX4_gapOfRow_45 : decode cX4_gapOfRow 45 = .ok (.if_icmp .ge 40, 3) := by decide +kernel
theorem dX4_gapOfRow_48 : decode cX4_gapOfRow 48 = .ok (.aload_n 0, 1) := by decide +kernel
theorem dX4_gapOfRow_49 : decode cX4_gapOfRow 49 = .ok (.getfield 22, 3) := by decide +kernel
theorem dX4_gapOfRow_52 : decode cX4_gapOfRow 52 = .ok (.iload 6, 2) := by decide +kernel
theorem dX4_gapOfRow_54 : decode cX4_gapOfRow 54 = .ok (.laload, 1) := by decide +kernel
theorem dX4_gapOfRow_55 : decode cX4_gapOfRow 55 = .ok (.aload_n 0, 1) := by decide +kernel
theorem dX4_gapOfRow_56 : decode cX4_gapOfRow 56 = .ok (.getfield 22, 3) := by decide +kernel
theorem dX4_gapOfRow_59 : decode cX4_gapOfRow 59 = .ok (.iload 8, 2) := by decide +kernel
theorem dX4_gapOfRow_61 : decode cX4_gapOfRow 61 = .ok (.laload, 1) := by decide +kernel
theorem dX4_gapOfRow_62 : decode cX4_gapOfRow 62 = .ok (.lsub, 1) := by decide +kernel
theorem dX4_gapOfRow_63 : decode cX4_gapOfRow 63 = .ok (.lstore 9, 2) := by decide +kernel
theorem dX4_gapOfRow_65 : decode cX4_gapOfRow 65 = .ok (.lload_n 2, 1) := by decide +kernel
theorem dX4_gapOfRow_66 : decode cX4_gapOfRow 66 = .ok (.lload 9, 2) := by decide +kernel
theorem dX4_gapOfRow_68 : decode cX4_gapOfRow 68 = .ok (.invokestatic 106, 3) := by decide +kernel
theorem dX4_gapOfRow_71 : decode cX4_gapOfRow 71 = .ok (.lstore_n 2, 1) := by decide +kernel
theorem dX4_gapOfRow_72 : decode cX4_gapOfRow 72 = .ok (.lload 4, 2) := by decide +kernel
theorem dX4_gapOfRow_74 : decode cX4_gapOfRow 74 = .ok (.lload 9, 2) := by decide +kernel
theorem dX4_gapOfRow_76 : decode cX4_gapOfRow 76 = .ok (.invokestatic 110, 3) := by decide +kernel
theorem dX4_gapOfRow_79 : decode cX4_gapOfRow 79 = .ok (.lstore 4, 2) := by decide +kernel
theorem dX4_gapOfRow_81 : decode cX4_gapOfRow 81 = .ok (.iload 8, 2) := by decide +kernel
theorem dX4_gapOfRow_83 : decode cX4_gapOfRow 83 = .ok (.istore 6, 2) := by decide +kernel
theorem dX4_gapOfRow_85 : decode cX4_gapOfRow 85 = .ok (.iinc 7 1, 3) := by decide +kernel
theorem dX4_gapOfRow_88 : decode cX4_gapOfRow 88 = .ok (.goto (-73), 3) := by decide +kernel
theorem dX4_gapOfRow_91 : decode cX4_gapOfRow 91 = .ok (.lload_n 2, 1) := by decide +kernel
theorem dX4_gapOfRow_92 : decode cX4_gapOfRow 92 = .ok (.lload 4, 2) := by decide +kernel
theorem dX4_gapOfRow_94 : decode cX4_gapOfRow 94 = .ok (.lsub, 1) := by decide +kernel
theorem dX4_gapOfRow_95 : decode cX4_gapOfRow 95 = .ok (.lreturn, 1) := by decide +kernel
theorem dX4_toNextRow_0 : decode cX4_toNextRow 0 = .ok (.aload_n 1, 1) := by decide +kernel
theorem dX4_toNextRow_1 : decode cX4_toNextRow 1 = .ok (.getfield 28, 3) := by decide +kernel
theorem dX4_toNextRow_4 : decode cX4_toNextRow 4 = .ok (.iconst 2, 1) := by decide +kernel
theorem dX4_toNextRow_5 : decode cX4_toNextRow 5 = .ok (.isub, 1) := by decide +kernel
theorem dX4_toNextRow_6 : decode cX4_toNextRow 6 = .ok (.istore_n 2, 1) := by decide +kernel
theorem dX4_toNextRow_7 : decode cX4_toNextRow 7 = .ok (.iload_n 2, 1) := by decide +kernel
theorem dX4_toNextRow_8 : decode cX4_toNextRow 8 = .ok (.ifCond .lt 26, 3) := by decide +kernel
theorem dX4_toNextRow_11 : decode cX4_toNextRow 11 = .ok (.aload_n 0, 1) := by decide +kernel
theorem dX4_toNextRow_12 : decode cX4_toNextRow 12 = .ok (.getfield 9, 3) := by decide +kernel
theorem dX4_toNextRow_15 : decode cX4_toNextRow 15 = .ok (.iload_n 2, 1) := by decide +kernel
theorem dX4_toNextRow_16 : decode cX4_toNextRow 16 = .ok (.iaload, 1) := by decide +kernel
theorem dX4_toNextRow_17 : decode cX4_toNextRow 17 = .ok (.aload_n 0, 1) := by decide +kernel
theorem dX4_toNextRow_18 : decode cX4_toNextRow 18 = .ok (.getfield 9, 3) := by decide +kernel
theorem dX4_toNextRow_21 : decode cX4_toNextRow 21 = .ok (.iload_n 2, 1) := by decide +kernel
theorem dX4_toNextRow_22 : decode cX4_toNextRow 22 = .ok (.iconst 1, 1) := by decide +kernel
theorem dX4_toNextRow_23 : decode cX4_toNextRow 23 = .ok (.iadd, 1) := by decide +kernel
theorem dX4_toNextRow_24 : decode cX4_toNextRow 24 = .ok (.iaload, 1) := by decide +kernel
theorem dX4_toNextRow_25 : decode cX4_toNextRow 25 = .ok (.if_icmp .le 9, 3) := by decide +kernel
theorem dX4_toNextRow_28 : decode cX4_toNextRow 28 = .ok (.iinc 2 (-1), 3) := by decide +kernel
theorem dX4_toNextRow_31 : decode cX4_toNextRow 31 = .ok (.goto (-24), 3) := by decide +kernel
theorem dX4_toNextRow_34 : decode cX4_toNextRow 34 = .ok (.iload_n 2, 1) := by decide +kernel
theorem dX4_toNextRow_35 : decode cX4_toNextRow 35 = .ok (.ifCond .ge 5, 3) := by decide +kernel
theorem dX4_toNextRow_38 : decode cX4_toNextRow 38 = .ok (.iconst 0, 1) := by decide +kernel
theorem dX4_toNextRow_39 : decode cX4_toNextRow 39 = .ok (.ireturn, 1) := by decide +kernel
theorem dX4_toNextRow_40 : decode cX4_toNextRow 40 = .ok (.aload_n 1, 1) := by decide +kernel
theorem dX4_toNextRow_41 : decode cX4_toNextRow 41 = .ok (.getfield 28, 3) := by decide +kernel
theorem dX4_toNextRow_44 : decode cX4_toNextRow 44 = .ok (.iconst 1, 1) := by decide +kernel
theorem dX4_toNextRow_45 : decode cX4_toNextRow 45 = .ok (.isub, 1) := by decide +kernel
theorem dX4_toNextRow_46 : decode cX4_toNextRow 46 = .ok (.istore_n 3, 1) := by decide +kernel
theorem dX4_toNextRow_47 : decode cX4_toNextRow 47 = .ok (.iload_n 3, 1) := by decide +kernel
theorem dX4_toNextRow_48 : decode cX4_toNextRow 48 = .ok (.iload_n 2, 1) := by decide +kernel
theorem dX4_toNextRow_49 : decode cX4_toNextRow 49 = .ok (.if_icmp .le 24, 3) := by decide +kernel
theorem dX4_toNextRow_52 : decode cX4_toNextRow 52 = .ok (.aload_n 0, 1) := by decide +kernel
theorem dX4_toNextRow_53 : decode cX4_toNextRow 53 = .ok (.getfield 9, 3) := by decide +kernel
theorem dX4_toNextRow_56 : decode cX4_toNextRow 56 = .ok (.iload_n 3, 1) := by decide +kernel
theorem dX4_toNextRow_57 : decode cX4_toNextRow 57 = .ok (.iaload, 1) := by decide +kernel
theorem dX4_toNextRow_58 : decode cX4_toNextRow 58 = .ok (.aload_n 0, 1) := by decide +kernel
theorem dX4_toNextRow_59 : decode cX4_toNextRow 59 = .ok (.getfield 9, 3) := by decide +kernel
theorem dX4_toNextRow_62 : decode cX4_toNextRow 62 = .ok (.iload_n 2, 1) := by decide +kernel
theorem dX4_toNextRow_63 : decode cX4_toNextRow 63 = .ok (.iaload, 1) := by decide +kernel
theorem dX4_toNextRow_64 : decode cX4_toNextRow 64 = .ok (.if_icmp .ge 9, 3) := by decide +kernel
theorem dX4_toNextRow_67 : decode cX4_toNextRow 67 = .ok (.iinc 3 (-1), 3) := by decide +kernel
theorem dX4_toNextRow_70 : decode cX4_toNextRow 70 = .ok (.goto (-23), 3) := by decide +kernel
theorem dX4_toNextRow_73 : decode cX4_toNextRow 73 = .ok (.aload_n 0, 1) := by decide +kernel
theorem dX4_toNextRow_74 : decode cX4_toNextRow 74 = .ok (.iload_n 2, 1) := by decide +kernel
theorem dX4_toNextRow_75 : decode cX4_toNextRow 75 = .ok (.iload_n 3, 1) := by decide +kernel
theorem dX4_toNextRow_76 : decode cX4_toNextRow 76 = .ok (.invokevirtual 112, 3) := by decide +kernel
theorem dX4_toNextRow_79 : decode cX4_toNextRow 79 = .ok (.iload_n 2, 1) := by decide +kernel
theorem dX4_toNextRow_80 : decode cX4_toNextRow 80 = .ok (.iconst 1, 1) := by decide +kernel
theorem dX4_toNextRow_81 : decode cX4_toNextRow 81 = .ok (.iadd, 1) := by decide +kernel
theorem dX4_toNextRow_82 : decode cX4_toNextRow 82 = .ok (.istore 4, 2) := by decide +kernel
theorem dX4_toNextRow_84 : decode cX4_toNextRow 84 = .ok (.aload_n 1, 1) := by decide +kernel
theorem dX4_toNextRow_85 : decode cX4_toNextRow 85 = .ok (.getfield 28, 3) := by decide +kernel
theorem dX4_toNextRow_88 : decode cX4_toNextRow 88 = .ok (.iconst 1, 1) := by decide +kernel
theorem dX4_toNextRow_89 : decode cX4_toNextRow 89 = .ok (.isub, 1) := by decide +kernel
theorem dX4_toNextRow_90 : decode cX4_toNextRow 90 = .ok (.istore 5, 2) := by decide +kernel
theorem dX4_toNextRow_92 : decode cX4_toNextRow 92 = .ok (.iload 4, 2) := by decide +kernel
theorem dX4_toNextRow_94 : decode cX4_toNextRow 94 = .ok (.iload 5, 2) := by decide +kernel
theorem dX4_toNextRow_96 : decode cX4_toNextRow 96 = .ok (.if_icmp .ge 20, 3) := by decide +kernel
theorem dX4_toNextRow_99 : decode cX4_toNextRow 99 = .ok (.aload_n 0, 1) := by decide +kernel
theorem dX4_toNextRow_100 : decode cX4_toNextRow 100 = .ok (.iload 4, 2) := by decide +kernel
theorem dX4_toNextRow_102 : decode cX4_toNextRow 102 = .ok (.iload 5, 2) := by decide +kernel
theorem dX4_toNextRow_104 : decode cX4_toNextRow 104 = .ok (.invokevirtual 112, 3) := by decide +kernel
theorem dX4_toNextRow_107 : decode cX4_toNextRow 107 = .ok (.iinc 4 1, 3) := by decide +kernel
theorem dX4_toNextRow_110 : decode cX4_toNextRow 110 = .ok (.iinc 5 (-1), 3) := by decide +kernel
theorem dX4_toNextRow_113 : decode cX4_toNextRow 113 = .ok (.goto (-21), 3) := by decide +kernel
theorem dX4_toNextRow_116 : decode cX4_toNextRow 116 = .ok (.iconst 1, 1) := by decide +kernel
theorem dX4_toNextRow_117 : decode cX4_toNextRow 117 = .ok (.ireturn, 1) := by decide +kernel
theorem dX4_swapInRow_0 : decode cX4_swapInRow 0 = .ok (.iload_n 1, 1) := by decide +kernel
theorem dX4_swapInRow_1 : decode cX4_swapInRow 1 = .ok (.ifCond .lt 45, 3) := by decide +kernel
theorem dX4_swapInRow_4 : decode cX4_swapInRow 4 = .ok (.iload_n 1, 1) := by decide +kernel
theorem dX4_swapInRow_5 : decode cX4_swapInRow 5 = .ok (.bipush 8, 2) := by decide +kernel
theorem dX4_swapInRow_7 : decode cX4_swapInRow 7 = .ok (.if_icmp .ge 39, 3) := by decide +kernel
theorem dX4_swapInRow_10 : decode cX4_swapInRow 10 = .ok (.iload_n 2, 1) := by decide +kernel
theorem dX4_swapInRow_11 : decode cX4_swapInRow 11 = .ok (.ifCond .lt 35, 3) := by decide +kernel
theorem dX4_swapInRow_14 : decode cX4_swapInRow 14 = .ok (.iload_n 2, 1) := by decide +kernel
theorem dX4_swapInRow_15 : decode cX4_swapInRow 15 = .ok (.bipush 8, 2) := by decide +kernel
theorem dX4_swapInRow_17 : decode cX4_swapInRow 17 = .ok (.if_icmp .ge 29, 3) := by decide +kernel
theorem dX4_swapInRow_20 : decode cX4_swapInRow 20 = .ok (.aload_n 0, 1) := by decide +kernel
theorem dX4_swapInRow_21 : decode cX4_swapInRow 21 = .ok (.getfield 9, 3) := by decide +kernel
theorem dX4_swapInRow_24 : decode cX4_swapInRow 24 = .ok (.iload_n 1, 1) := by decide +kernel
theorem dX4_swapInRow_25 : decode cX4_swapInRow 25 = .ok (.iaload, 1) := by decide +kernel
theorem dX4_swapInRow_26 : decode cX4_swapInRow 26 = .ok (.istore_n 3, 1) := by decide +kernel
theorem dX4_swapInRow_27 : decode cX4_swapInRow 27 = .ok (.aload_n 0, 1) := by decide +kernel
theorem dX4_swapInRow_28 : decode cX4_swapInRow 28 = .ok (.getfield 9, 3) := by decide +kernel
theorem dX4_swapInRow_31 : decode cX4_swapInRow 31 = .ok (.iload_n 1, 1) := by decide +kernel
theorem dX4_swapInRow_32 : decode cX4_swapInRow 32 = .ok (.aload_n 0, 1) := by decide +kernel
theorem dX4_swapInRow_33 : decode cX4_swapInRow 33 = .ok (.getfield 9, 3) := by decide +kernel
theorem dX4_swapInRow_36 : decode cX4_swapInRow 36 = .ok (.iload_n 2, 1) := by decide +kernel
theorem dX4_swapInRow_37 : decode cX4_swapInRow 37 = .ok (.iaload, 1) := by decide +kernel
theorem dX4_swapInRow_38 : decode cX4_swapInRow 38 = .ok (.iastore, 1) := by decide +kernel
theorem dX4_swapInRow_39 : decode cX4_swapInRow 39 = .ok (.aload_n 0, 1) := by decide +kernel
theorem dX4_swapInRow_40 : decode cX4_swapInRow 40 = .ok (.getfield 9, 3) := by decide +kernel
theorem dX4_swapInRow_43 : decode cX4_swapInRow 43 = .ok (.iload_n 2, 1) := by decide +kernel
theorem dX4_swapInRow_44 : decode cX4_swapInRow 44 = .ok (.iload_n 3, 1) := by decide +kernel
theorem dX4_swapInRow_45 : decode cX4_swapInRow 45 = .ok (.iastore, 1) := by decide +kernel
theorem dX4_swapInRow_46 : decode cX4_swapInRow 46 = .ok (.return_, 1) := by decide +kernel
theorem dX4_bestLayers_0 : decode cX4_bestLayers 0 = .ok (.iconst 1, 1) := by decide +kernel
theorem dX4_bestLayers_1 : decode cX4_bestLayers 1 = .ok (.aload_n 1, 1) := by decide +kernel
theorem dX4_bestLayers_2 : decode cX4_bestLayers 2 = .ok (.getfield 28, 3) := by decide +kernel
theorem dX4_bestLayers_5 : decode cX4_bestLayers 5 = .ok (.ishl, 1) := by decide +kernel
theorem dX4_bestLayers_6 : decode cX4_bestLayers 6 = .ok (.iconst 1, 1) := by decide +kernel
theorem dX4_bestLayers_7 : decode cX4_bestLayers 7 = .ok (.isub, 1) := by decide +kernel
theorem dX4_bestLayers_8 : decode cX4_bestLayers 8 = .ok (.istore_n 2, 1) := by decide +kernel
theorem dX4_bestLayers_9 : decode cX4_bestLayers 9 = .ok (.iconst 1, 1) := by decide +kernel
theorem dX4_bestLayers_10 : decode cX4_bestLayers 10 = .ok (.aload_n 1, 1) := by decide +kernel
theorem dX4_bestLayers_11 : decode cX4_bestLayers 11 = .ok (.getfield 28, 3) := by decide +kernel
theorem dX4_bestLayers_14 : decode cX4_bestLayers 14 = .ok (.iconst 1, 1) := by decide +kernel
theorem dX4_bestLayers_15 : decode cX4_bestLayers 15 = .ok (.isub, 1) := by decide +kernel
theorem dX4_bestLayers_16 : decode cX4_bestLayers 16 = .ok (.ishl, 1) := by decide +kernel
theorem dX4_bestLayers_17 : decode cX4_bestLayers 17 = .ok (.iconst 1, 1) := by decide +kernel
theorem dX4_bestLayers_18 : decode cX4_bestLayers 18 = .ok (.isub, 1) := by decide +kernel
theorem dX4_bestLayers_19 : decode cX4_bestLayers 19 = .ok (.istore_n 3, 1) := by decide +kernel
theorem dX4_bestLayers_20 : decode cX4_bestLayers 20 = .ok (.iconst 1, 1) := by decide +kernel
theorem dX4_bestLayers_21 : decode cX4_bestLayers 21 = .ok (.istore 4, 2) := by decide +kernel
theorem dX4_bestLayers_23 : decode cX4_bestLayers 23 = .ok (.ldc2_w 52, 3) := by decide +kernel
theorem dX4_bestLayers_26 : decode cX4_bestLayers 26 = .ok (.lstore 5, 2) := by decide +kernel
theorem dX4_bestLayers_28 : decode cX4_bestLayers 28 = .ok (.iconst 1, 1) := by decide +kernel
theorem dX4_bestLayers_29 : decode cX4_bestLayers 29 = .ok (.istore 7, 2) := by decide +kernel
theorem dX4_bestLayers_31 : decode cX4_bestLayers 31 = .ok (.iload 7, 2) := by decide +kernel
theorem dX4_bestLayers_33 : decode cX4_bestLayers 33 = .ok (.bipush 9, 2) := by decide +kernel
theorem dX4_bestLayers_35 : decode cX4_bestLayers 35 = .ok (.if_icmp .gt 44, 3) := by decide +kernel
theorem dX4_bestLayers_38 : decode cX4_bestLayers 38 = .ok (.aload_n 0, 1) := by decide +kernel
theorem dX4_bestLayers_39 : decode cX4_bestLayers 39 = .ok (.aload_n 1, 1) := by decide +kernel
theorem dX4_bestLayers_40 : decode cX4_bestLayers 40 = .ok (.iload 7, 2) := by decide +kernel
theorem dX4_bestLayers_42 : decode cX4_bestLayers 42 = .ok (.iload_n 3, 1) := by decide +kernel
theorem dX4_bestLayers_43 : decode cX4_bestLayers 43 = .ok (.invokevirtual 44, 3) := by decide +kernel
theorem dX4_bestLayers_46 : decode cX4_bestLayers 46 = .ok (.aload_n 0, 1) := by decide +kernel
theorem dX4_bestLayers_47 : decode cX4_bestLayers 47 = .ok (.aload_n 1, 1) := by decide +kernel
theorem dX4_bestLayers_48 : decode cX4_bestLayers 48 = .ok (.iload 7, 2) := by decide +kernel
theorem dX4_bestLayers_50 : decode cX4_bestLayers 50 = .ok (.iload_n 2, 1) := by decide +kernel
theorem dX4_bestLayers_51 : decode cX4_bestLayers 51 = .ok (.invokevirtual 44, 3) := by decide +kernel
theorem dX4_bestLayers_54 : decode cX4_bestLayers 54 = .ok (.lsub, 1) := by decide +kernel
theorem dX4_bestLayers_55 : decode cX4_bestLayers 55 = .ok (.lstore 8, 2) := by decide +kernel
theorem dX4_bestLayers_57 : decode cX4_bestLayers 57 = .ok (.lload 8, 2) := by decide +kernel
theorem dX4_bestLayers_59 : decode cX4_bestLayers 59 = .ok (.lload 5, 2) := by decide +kernel
theorem dX4_bestLayers_61 : decode cX4_bestLayers 61 = .ok (.lcmp, 1) := by decide +kernel
theorem dX4_bestLayers_62 : decode cX4_bestLayers 62 = .ok (.ifCond .le 11, 3) := by decide +kernel
theorem dX4_bestLayers_65 : decode cX4_bestLayers 65 = .ok (.iload 7, 2) := by decide +kernel
theorem dX4_bestLayers_67 : decode cX4_bestLayers 67 = .ok (.istore 4, 2) := by decide +kernel
theorem dX4_bestLayers_69 : decode cX4_bestLayers 69 = .ok (.lload 8, 2) := by decide +kernel
theorem dX4_bestLayers_71 : decode cX4_bestLayers 71 = .ok (.lstore 5, 2) := by decide +kernel
theorem dX4_bestLayers_73 : decode cX4_bestLayers 73 = .ok (.iinc 7 1, 3) := by decide +kernel
theorem dX4_bestLayers_76 : decode cX4_bestLayers 76 = .ok (.goto (-45), 3) := by decide +kernel
theorem dX4_bestLayers_79 : decode cX4_bestLayers 79 = .ok (.iload 4, 2) := by decide +kernel
theorem dX4_bestLayers_81 : decode cX4_bestLayers 81 = .ok (.ireturn, 1) := by decide +kernel
theorem dX4_knowsAll_0 : decode cX4_knowsAll 0 = .ok (.aload_n 1, 1) := by decide +kernel
theorem dX4_knowsAll_1 : decode cX4_knowsAll 1 = .ok (.getfield 28, 3) := by decide +kernel
theorem dX4_knowsAll_4 : decode cX4_knowsAll 4 = .ok (.aload_n 1, 1) := by decide +kernel
theorem dX4_knowsAll_5 : decode cX4_knowsAll 5 = .ok (.getfield 34, 3) := by decide +kernel
theorem dX4_knowsAll_8 : decode cX4_knowsAll 8 = .ok (.imul, 1) := by decide +kernel
theorem dX4_knowsAll_9 : decode cX4_knowsAll 9 = .ok (.istore_n 2, 1) := by decide +kernel
theorem dX4_knowsAll_10 : decode cX4_knowsAll 10 = .ok (.iconst 0, 1) := by decide +kernel
theorem dX4_knowsAll_11 : decode cX4_knowsAll 11 = .ok (.istore_n 3, 1) := by decide +kernel
theorem dX4_knowsAll_12 : decode cX4_knowsAll 12 = .ok (.iload_n 3, 1) := by decide +kernel
theorem dX4_knowsAll_13 : decode cX4_knowsAll 13 = .ok (.bipush 31, 2) := by decide +kernel
theorem dX4_knowsAll_15 : decode cX4_knowsAll 15 = .ok (.if_icmp .ge 16, 3) := by decide +kernel
theorem dX4_knowsAll_18 : decode cX4_knowsAll 18 = .ok (.aload_n 0, 1) := by decide +kernel
theorem dX4_knowsAll_19 : decode cX4_knowsAll 19 = .ok (.iload_n 2, 1) := by decide +kernel
theorem dX4_knowsAll_20 : decode cX4_knowsAll 20 = .ok (.iload_n 3, 1) := by decide +kernel
theorem dX4_knowsAll_21 : decode cX4_knowsAll 21 = .ok (.lconst 0, 1) := by decide +kernel
theorem dX4_knowsAll_22 : decode cX4_knowsAll 22 = .ok (.invokevirtual 116, 3) := by decide +kernel
theorem dX4_knowsAll_25 : decode cX4_knowsAll 25 = .ok (.iinc 3 1, 3) := by decide +kernel
theorem dX4_knowsAll_28 : decode cX4_knowsAll 28 = .ok (.goto (-16), 3) := by decide +kernel
theorem dX4_knowsAll_31 : decode cX4_knowsAll 31 = .ok (.iload_n 2, 1) := by decide +kernel
theorem dX4_knowsAll_32 : decode cX4_knowsAll 32 = .ok (.iconst 1, 1) := by decide +kernel
theorem dX4_knowsAll_33 : decode cX4_knowsAll 33 = .ok (.isub, 1) := by decide +kernel
theorem dX4_knowsAll_34 : decode cX4_knowsAll 34 = .ok (.istore_n 3, 1) := by decide +kernel
theorem dX4_knowsAll_35 : decode cX4_knowsAll 35 = .ok (.aload_n 1, 1) := by decide +kernel
theorem dX4_knowsAll_36 : decode cX4_knowsAll 36 = .ok (.getfield 28, 3) := by decide +kernel
theorem dX4_knowsAll_39 : decode cX4_knowsAll 39 = .ok (.iconst 1, 1) := by decide +kernel
theorem dX4_knowsAll_40 : decode cX4_knowsAll 40 = .ok (.isub, 1) := by decide +kernel
theorem dX4_knowsAll_41 : decode cX4_knowsAll 41 = .ok (.istore 4, 2) := by decide +kernel
theorem dX4_knowsAll_43 : decode cX4_knowsAll 43 = .ok (.iload 4, 2) := by decide +kernel
theorem dX4_knowsAll_45 : decode cX4_knowsAll 45 = .ok (.ifCond .lt 38, 3) := by decide +kernel
theorem dX4_knowsAll_48 : decode cX4_knowsAll 48 = .ok (.iconst 0, 1) := by decide +kernel
theorem dX4_knowsAll_49 : decode cX4_knowsAll 49 = .ok (.istore 5, 2) := by decide +kernel
theorem dX4_knowsAll_51 : decode cX4_knowsAll 51 = .ok (.iload 5, 2) := by decide +kernel
theorem dX4_knowsAll_53 : decode cX4_knowsAll 53 = .ok (.aload_n 1, 1) := by decide +kernel
theorem dX4_knowsAll_54 : decode cX4_knowsAll 54 = .ok (.getfield 34, 3) := by decide +kernel
theorem dX4_knowsAll_57 : decode cX4_knowsAll 57 = .ok (.if_icmp .ge 20, 3) := by decide +kernel
theorem dX4_knowsAll_60 : decode cX4_knowsAll 60 = .ok (.aload_n 0, 1) := by decide +kernel
theorem dX4_knowsAll_61 : decode cX4_knowsAll 61 = .ok (.aload_n 1, 1) := by decide +kernel
theorem dX4_knowsAll_62 : decode cX4_knowsAll 62 = .ok (.iload 4, 2) := by decide +kernel
theorem dX4_knowsAll_64 : decode cX4_knowsAll 64 = .ok (.iload_n 3, 1) := by decide +kernel
theorem dX4_knowsAll_65 : decode cX4_knowsAll 65 = .ok (.invokevirtual 120, 3) := by decide +kernel
theorem dX4_knowsAll_68 : decode cX4_knowsAll 68 = .ok (.iinc 3 (-1), 3) := by decide +kernel
theorem dX4_knowsAll_71 : decode cX4_knowsAll 71 = .ok (.iinc 5 1, 3) := by decide +kernel
theorem dX4_knowsAll_74 : decode cX4_knowsAll 74 = .ok (.goto (-23), 3) := by decide +kernel
theorem dX4_knowsAll_77 : decode cX4_knowsAll 77 = .ok (.iinc 4 (-1), 3) := by decide +kernel
theorem dX4_knowsAll_80 : decode cX4_knowsAll 80 = .ok (.goto (-37), 3) := by decide +kernel
theorem dX4_knowsAll_83 : decode cX4_knowsAll 83 = .ok (.return_, 1) := by decide +kernel
theorem dX4_weighLifting_0 : decode cX4_weighLifting 0 = .ok (.aload_n 1, 1) := by decide +kernel
theorem dX4_weighLifting_1 : decode cX4_weighLifting 1 = .ok (.getfield 77, 3) := by decide +kernel
theorem dX4_weighLifting_4 : decode cX4_weighLifting 4 = .ok (.iload_n 2, 1) := by decide +kernel
theorem dX4_weighLifting_5 : decode cX4_weighLifting 5 = .ok (.iaload, 1) := by decide +kernel
theorem dX4_weighLifting_6 : decode cX4_weighLifting 6 = .ok (.istore 4, 2) := by decide +kernel
theorem dX4_weighLifting_8 : decode cX4_weighLifting 8 = .ok (.iconst 1, 1) := by decide +kernel
theorem dX4_weighLifting_9 : decode cX4_weighLifting 9 = .ok (.istore 5, 2) := by decide +kernel
theorem dX4_weighLifting_11 : decode cX4_weighLifting 11 = .ok (.iload 5, 2) := by decide +kernel
theorem dX4_weighLifting_13 : decode cX4_weighLifting 13 = .ok (.bipush 31, 2) := by decide +kernel
theorem dX4_weighLifting_15 : decode cX4_weighLifting 15 = .ok (.if_icmp .ge 59, 3) := by decide +kernel
theorem dX4_weighLifting_18 : decode cX4_weighLifting 18 = .ok (.aload_n 0, 1) := by decide +kernel
theorem dX4_weighLifting_19 : decode cX4_weighLifting 19 = .ok (.iload_n 3, 1) := by decide +kernel
theorem dX4_weighLifting_20 : decode cX4_weighLifting 20 = .ok (.iconst 1, 1) := by decide +kernel
theorem dX4_weighLifting_21 : decode cX4_weighLifting 21 = .ok (.iadd, 1) := by decide +kernel
theorem dX4_weighLifting_22 : decode cX4_weighLifting 22 = .ok (.iload 5, 2) := by decide +kernel
theorem dX4_weighLifting_24 : decode cX4_weighLifting 24 = .ok (.invokevirtual 123, 3) := by decide +kernel
theorem dX4_weighLifting_27 : decode cX4_weighLifting 27 = .ok (.lstore 6, 2) := by decide +kernel
theorem dX4_weighLifting_29 : decode cX4_weighLifting 29 = .ok (.lload 6, 2) := by decide +kernel
theorem dX4_weighLifting_31 : decode cX4_weighLifting 31 = .ok (.aload_n 0, 1) := by decide +kernel
theorem dX4_weighLifting_32 : decode cX4_weighLifting 32 = .ok (.aload_n 1, 1) := by decide +kernel
theorem dX4_weighLifting_33 : decode cX4_weighLifting 33 = .ok (.iload_n 2, 1) := by decide +kernel
theorem dX4_weighLifting_34 : decode cX4_weighLifting 34 = .ok (.iload_n 3, 1) := by decide +kernel
theorem dX4_weighLifting_35 : decode cX4_weighLifting 35 = .ok (.iload 5, 2) := by decide +kernel
theorem dX4_weighLifting_37 : decode cX4_weighLifting 37 = .ok (.invokevirtual 127, 3) := by decide +kernel
theorem dX4_weighLifting_40 : decode cX4_weighLifting 40 = .ok (.invokestatic 106, 3) := by decide +kernel
theorem dX4_weighLifting_43 : decode cX4_weighLifting 43 = .ok (.lstore 8, 2) := by decide +kernel
theorem dX4_weighLifting_45 : decode cX4_weighLifting 45 = .ok (.aload_n 0, 1) := by decide +kernel
theorem dX4_weighLifting_46 : decode cX4_weighLifting 46 = .ok (.iload_n 3, 1) := by decide +kernel
theorem dX4_weighLifting_47 : decode cX4_weighLifting 47 = .ok (.iload 5, 2) := by decide +kernel
theorem dX4_weighLifting_49 : decode cX4_weighLifting 49 = .ok (.bipush 10, 2) := by decide +kernel
theorem dX4_weighLifting_51 : decode cX4_weighLifting 51 = .ok (.iload 4, 2) := by decide +kernel
theorem dX4_weighLifting_53 : decode cX4_weighLifting 53 = .ok (.isub, 1) := by decide +kernel
theorem dX4_weighLifting_54 : decode cX4_weighLifting 54 = .ok (.i2l, 1) := by decide +kernel
theorem dX4_weighLifting_55 : decode cX4_weighLifting 55 = .ok (.lload 6, 2) := by decide +kernel
theorem dX4_weighLifting_57 : decode cX4_weighLifting 57 = .ok (.lmul, 1) := by decide +kernel
theorem dX4_weighLifting_58 : decode cX4_weighLifting 58 = .ok (.iload 4, 2) := by decide +kernel
theorem dX4_weighLifting_60 : decode cX4_weighLifting 60 = .ok (.i2l, 1) := by decide +kernel
theorem dX4_weighLifting_61 : decode cX4_weighLifting 61 = .ok (.lload 8, 2) := by decide +kernel
theorem dX4_weighLifting_63 : decode cX4_weighLifting 63 = .ok (.lmul, 1) := by decide +kernel
theorem dX4_weighLifting_64 : decode cX4_weighLifting 64 = .ok (.ladd, 1) := by decide +kernel
theorem dX4_weighLifting_65 : decode cX4_weighLifting 65 = .ok (.invokevirtual 116, 3) := by decide +kernel
theorem dX4_weighLifting_68 : decode cX4_weighLifting 68 = .ok (.iinc 5 1, 3) := by decide +kernel
theorem dX4_weighLifting_71 : decode cX4_weighLifting 71 = .ok (.goto (-60), 3) := by decide +kernel
theorem dX4_weighLifting_74 : decode cX4_weighLifting 74 = .ok (.return_, 1) := by decide +kernel
theorem dX4_bestAt_0 : decode cX4_bestAt 0 = .ok (.iload_n 1, 1) := by decide +kernel
theorem dX4_bestAt_1 : decode cX4_bestAt 1 = .ok (.iload_n 2, 1) := by decide +kernel
theorem dX4_bestAt_2 : decode cX4_bestAt 2 = .ok (.invokestatic 131, 3) := by decide +kernel
theorem dX4_bestAt_5 : decode cX4_bestAt 5 = .ok (.ifCond .eq 17, 3) := by decide +kernel
theorem dX4_bestAt_8 : decode cX4_bestAt 8 = .ok (.aload_n 0, 1) := by decide +kernel
theorem dX4_bestAt_9 : decode cX4_bestAt 9 = .ok (.getfield 25, 3) := by decide +kernel
theorem dX4_bestAt_12 : decode cX4_bestAt 12 = .ok (.iload_n 1, 1) := by decide +kernel
theorem dX4_bestAt_13 : decode cX4_bestAt 13 = .ok (.bipush 31, 2) := by decide +kernel
theorem dX4_bestAt_15 : decode cX4_bestAt 15 = .ok (.imul, 1) := by decide +kernel
theorem dX4_bestAt_16 : decode cX4_bestAt 16 = .ok (.iload_n 2, 1) := by decide +kernel
theorem dX4_bestAt_17 : decode cX4_bestAt 17 = .ok (.iadd, 1) := by decide +kernel
theorem dX4_bestAt_18 : decode cX4_bestAt 18 = .ok (.laload, 1) := by decide +kernel
theorem dX4_bestAt_19 : decode cX4_bestAt 19 = .ok (.goto 4, 3) := by decide +kernel
theorem dX4_bestAt_22 : decode cX4_bestAt 22 = .ok (.lconst 0, 1) := by decide +kernel
theorem dX4_bestAt_23 : decode cX4_bestAt 23 = .ok (.lreturn, 1) := by decide +kernel
theorem dX4_setBest_0 : decode cX4_setBest 0 = .ok (.iload_n 1, 1) := by decide +kernel
theorem dX4_setBest_1 : decode cX4_setBest 1 = .ok (.iload_n 2, 1) := by decide +kernel
theorem dX4_setBest_2 : decode cX4_setBest 2 = .ok (.invokestatic 131, 3) := by decide +kernel
theorem dX4_setBest_5 : decode cX4_setBest 5 = .ok (.ifCond .eq 15, 3) := by decide +kernel
theorem dX4_setBest_8 : decode cX4_setBest 8 = .ok (.aload_n 0, 1) := by decide +kernel
theorem dX4_setBest_9 : decode cX4_setBest 9 = .ok (.getfield 25, 3) := by decide +kernel
theorem dX4_setBest_12 : decode cX4_setBest 12 = .ok (.iload_n 1, 1) := by decide +kernel
theorem dX4_setBest_13 : decode cX4_setBest 13 = .ok (.bipush 31, 2) := by decide +kernel
theorem dX4_setBest_15 : decode cX4_setBest 15 = .ok (.imul, 1) := by decide +kernel
theorem dX4_setBest_16 : decode cX4_setBest 16 = .ok (.iload_n 2, 1) := by decide +kernel
theorem dX4_setBest_17 : decode cX4_setBest 17 = .ok (.iadd, 1) := by decide +kernel
theorem dX4_setBest_18 : decode cX4_setBest 18 = .ok (.lload_n 3, 1) := by decide +kernel
theorem dX4_setBest_19 : decode cX4_setBest 19 = .ok (.lastore, 1) := by decide +kernel
theorem dX4_setBest_20 : decode cX4_setBest 20 = .ok (.return_, 1) := by decide +kernel
theorem dX4_isInTable_0 : decode cX4_isInTable 0 = .ok (.iload_n 0, 1) := by decide +kernel
theorem dX4_isInTable_1 : decode cX4_isInTable 1 = .ok (.ifCond .lt 23, 3) := by decide +kernel
theorem dX4_isInTable_4 : decode cX4_isInTable 4 = .ok (.iload_n 0, 1) := by decide +kernel
theorem dX4_isInTable_5 : decode cX4_isInTable 5 = .ok (.bipush 15, 2) := by decide +kernel
theorem dX4_isInTable_7 : decode cX4_isInTable 7 = .ok (.if_icmp .gt 17, 3) := by decide +kernel
theorem dX4_isInTable_10 : decode cX4_isInTable 10 = .ok (.iload_n 1, 1) := by decide +kernel
theorem dX4_isInTable_11 : decode cX4_isInTable 11 = .ok (.ifCond .lt 13, 3) := by decide +kernel
theorem dX4_isInTable_14 : decode cX4_isInTable 14 = .ok (.iload_n 1, 1) := by decide +kernel
theorem dX4_isInTable_15 : decode cX4_isInTable 15 = .ok (.bipush 31, 2) := by decide +kernel
theorem dX4_isInTable_17 : decode cX4_isInTable 17 = .ok (.if_icmp .ge 7, 3) := by decide +kernel
theorem dX4_isInTable_20 : decode cX4_isInTable 20 = .ok (.iconst 1, 1) := by decide +kernel
theorem dX4_isInTable_21 : decode cX4_isInTable 21 = .ok (.goto 4, 3) := by decide +kernel
theorem dX4_isInTable_24 : decode cX4_isInTable 24 = .ok (.iconst 0, 1) := by decide +kernel
theorem dX4_isInTable_25 : decode cX4_isInTable 25 = .ok (.ireturn, 1) := by decide +kernel
theorem dX4_ifNotLifted_0 : decode cX4_ifNotLifted 0 = .ok (.iload 4, 2) := by decide +kernel
theorem dX4_ifNotLifted_2 : decode cX4_ifNotLifted 2 = .ok (.aload_n 1, 1) := by decide +kernel
theorem dX4_ifNotLifted_3 : decode cX4_ifNotLifted 3 = .ok (.getfield 80, 3) := by decide +kernel
theorem dX4_ifNotLifted_6 : decode cX4_ifNotLifted 6 = .ok (.iload_n 2, 1) := by decide +kernel
theorem dX4_ifNotLifted_7 : decode cX4_ifNotLifted 7 = .ok (.iaload, 1) := by decide +kernel
theorem dX4_ifNotLifted_8 : decode cX4_ifNotLifted 8 = .ok (.if_icmp .le 20, 3) := by decide +kernel
theorem dX4_ifNotLifted_11 : decode cX4_ifNotLifted 11 = .ok (.aload_n 0, 1) := by decide +kernel
theorem dX4_ifNotLifted_12 : decode cX4_ifNotLifted 12 = .ok (.iload_n 3, 1) := by decide +kernel
theorem dX4_ifNotLifted_13 : decode cX4_ifNotLifted 13 = .ok (.iconst 1, 1) := by decide +kernel
theorem dX4_ifNotLifted_14 : decode cX4_ifNotLifted 14 = .ok (.iadd, 1) := by decide +kernel
theorem dX4_ifNotLifted_15 : decode cX4_ifNotLifted 15 = .ok (.iload 4, 2) := by decide +kernel
theorem dX4_ifNotLifted_17 : decode cX4_ifNotLifted 17 = .ok (.aload_n 1, 1) := by decide +kernel
theorem dX4_ifNotLifted_18 : decode cX4_ifNotLifted 18 = .ok (.getfield 80, 3) := by decide +kernel
theorem dX4_ifNotLifted_21 : decode cX4_ifNotLifted 21 = .ok (.iload_n 2, 1) := by decide +kernel
theorem dX4_ifNotLifted_22 : decode cX4_ifNotLifted 22 = .ok (.iaload, 1) := by decide +kernel
theorem dX4_ifNotLifted_23 : decode cX4_ifNotLifted 23 = .ok (.isub, 1) := by decide +kernel
theorem dX4_ifNotLifted_24 : decode cX4_ifNotLifted 24 = .ok (.invokevirtual 123, 3) := by decide +kernel
theorem dX4_ifNotLifted_27 : decode cX4_ifNotLifted 27 = .ok (.lreturn, 1) := by decide +kernel
theorem dX4_ifNotLifted_28 : decode cX4_ifNotLifted 28 = .ok (.iload_n 2, 1) := by decide +kernel
theorem dX4_ifNotLifted_29 : decode cX4_ifNotLifted 29 = .ok (.aload_n 1, 1) := by decide +kernel
theorem dX4_ifNotLifted_30 : decode cX4_ifNotLifted 30 = .ok (.getfield 28, 3) := by decide +kernel
theorem dX4_ifNotLifted_33 : decode cX4_ifNotLifted 33 = .ok (.iconst 1, 1) := by decide +kernel
theorem dX4_ifNotLifted_34 : decode cX4_ifNotLifted 34 = .ok (.isub, 1) := by decide +kernel
theorem dX4_ifNotLifted_35 : decode cX4_ifNotLifted 35 = .ok (.if_icmp .ne 22, 3) := by decide +kernel
theorem dX4_ifNotLifted_38 : decode cX4_ifNotLifted 38 = .ok (.aload_n 1, 1) := by decide +kernel
theorem dX4_ifNotLifted_39 : decode cX4_ifNotLifted 39 = .ok (.getfield 28, 3) := by decide +kernel
theorem dX4_ifNotLifted_42 : decode cX4_ifNotLifted 42 = .ok (.aload_n 1, 1) := by decide +kernel
theorem dX4_ifNotLifted_43 : decode cX4_ifNotLifted 43 = .ok (.getfield 34, 3) := by decide +kernel
theorem dX4_ifNotLifted_46 : decode cX4_ifNotLifted 46 = .ok (.imul, 1) := by decide +kernel
theorem dX4_ifNotLifted_47 : decode cX4_ifNotLifted 47 = .ok (.iload_n 3, 1) := by decide +kernel
theorem dX4_ifNotLifted_48 : decode cX4_ifNotLifted 48 = .ok (.isub, 1) := by decide +kernel
theorem dX4_ifNotLifted_49 : decode cX4_ifNotLifted 49 = .ok (.iconst 1, 1) := by decide +kernel
theorem dX4_ifNotLifted_50 : decode cX4_ifNotLifted 50 = .ok (.isub, 1) := by decide +kernel
theorem dX4_ifNotLifted_51 : decode cX4_ifNotLifted 51 = .ok (.invokestatic 37, 3) := by decide +kernel
theorem dX4_ifNotLifted_54 : decode cX4_ifNotLifted 54 = .ok (.goto 4, 3) := by decide +kernel
theorem dX4_ifNotLifted_57 : decode cX4_ifNotLifted 57 = .ok (.lconst 0, 1) := by decide +kernel
theorem dX4_ifNotLifted_58 : decode cX4_ifNotLifted 58 = .ok (.lreturn, 1) := by decide +kernel
theorem dX4_isBetterLifted_0 : decode cX4_isBetterLifted 0 = .ok (.iload_n 2, 1) := by decide +kernel
theorem dX4_isBetterLifted_1 : decode cX4_isBetterLifted 1 = .ok (.aload_n 1, 1) := by decide +kernel
theorem dX4_isBetterLifted_2 : decode cX4_isBetterLifted 2 = .ok (.getfield 34, 3) := by decide +kernel
theorem dX4_isBetterLifted_5 : decode cX4_isBetterLifted 5 = .ok (.imul, 1) := by decide +kernel
theorem dX4_isBetterLifted_6 : decode cX4_isBetterLifted 6 = .ok (.iload_n 3, 1) := by decide +kernel
theorem dX4_isBetterLifted_7 : decode cX4_isBetterLifted 7 = .ok (.iadd, 1) := by decide +kernel
theorem dX4_isBetterLifted_8 : decode cX4_isBetterLifted 8 = .ok (.istore 5, 2) := by decide +kernel
theorem dX4_isBetterLifted_10 : decode cX4_isBetterLifted 10 = .ok (.aload_n 1, 1) := by decide +kernel
theorem dX4_isBetterLifted_11 : decode cX4_isBetterLifted 11 = .ok (.iload_n 2, 1) := by decide +kernel
theorem dX4_isBetterLifted_12 : decode cX4_isBetterLifted 12 = .ok (.invokevirtual 135, 3) := by decide +kernel
theorem dX4_isBetterLifted_15 : decode cX4_isBetterLifted 15 = .ok (.ifCond .eq 31, 3) := by decide +kernel
theorem dX4_isBetterLifted_18 : decode cX4_isBetterLifted 18 = .ok (.aload_n 0, 1) := by decide +kernel
theorem dX4_isBetterLifted_19 : decode cX4_isBetterLifted 19 = .ok (.iload 5, 2) := by decide +kernel
theorem dX4_isBetterLifted_21 : decode cX4_isBetterLifted 21 = .ok (.iconst 1, 1) := by decide +kernel
theorem dX4_isBetterLifted_22 : decode cX4_isBetterLifted 22 = .ok (.iadd, 1) := by decide +kernel
theorem dX4_isBetterLifted_23 : decode cX4_isBetterLifted 23 = .ok (.iload 4, 2) := by decide +kernel
theorem dX4_isBetterLifted_25 : decode cX4_isBetterLifted 25 = .ok (.invokevirtual 123, 3) := by decide +kernel
theorem dX4_isBetterLifted_28 : decode cX4_isBetterLifted 28 = .ok (.aload_n 0, 1) := by decide +kernel
theorem dX4_isBetterLifted_29 : decode cX4_isBetterLifted 29 = .ok (.aload_n 1, 1) := by decide +kernel
theorem dX4_isBetterLifted_30 : decode cX4_isBetterLifted 30 = .ok (.iload_n 2, 1) := by decide +kernel
theorem dX4_isBetterLifted_31 : decode cX4_isBetterLifted 31 = .ok (.iload 5, 2) := by decide +kernel
theorem dX4_isBetterLifted_33 : decode cX4_isBetterLifted 33 = .ok (.iload 4, 2) := by decide +kernel
theorem dX4_isBetterLifted_35 : decode cX4_isBetterLifted 35 = .ok (.invokevirtual 127, 3) := by decide +kernel
theorem dX4_isBetterLifted_38 : decode cX4_isBetterLifted 38 = .ok (.lcmp, 1) := by decide +kernel
theorem dX4_isBetterLifted_39 : decode cX4_isBetterLifted 39 = .ok (.ifCond .le 7, 3) := by decide +kernel
theorem dX4_isBetterLifted_42 : decode cX4_isBetterLifted 42 = .ok (.iconst 1, 1) := by decide +kernel
theorem dX4_isBetterLifted_43 : decode cX4_isBetterLifted 43 = .ok (.goto 4, 3) := by decide +kernel
theorem dX4_isBetterLifted_46 : decode cX4_isBetterLifted 46 = .ok (.iconst 0, 1) := by decide +kernel
theorem dX4_isBetterLifted_47 : decode cX4_isBetterLifted 47 = .ok (.ireturn, 1) := by decide +kernel
theorem dX5_init_0 : decode cX5_init 0 = .ok (.aload_n 0, 1) := by decide +kernel
theorem dX5_init_1 : decode cX5_init 1 = .ok (.invokespecial 3, 3) := by decide +kernel
theorem dX5_init_4 : decode cX5_init 4 = .ok (.aload_n 0, 1) := by decide +kernel
theorem dX5_init_5 : decode cX5_init 5 = .ok (.iconst 5, 1) := by decide +kernel
theorem dX5_init_6 : decode cX5_init 6 = .ok (.newarray .int, 2) := by decide +kernel
theorem dX5_init_8 : decode cX5_init 8 = .ok (.putfield 9, 3) := by decide +kernel
theorem dX5_init_11 : decode cX5_init 11 = .ok (.aload_n 0, 1) := by decide +kernel
theorem dX5_init_12 : decode cX5_init 12 = .ok (.iconst 5, 1) := by decide +kernel
theorem dX5_init_13 : decode cX5_init 13 = .ok (.newarray .int, 2) := by decide +kernel
theorem dX5_init_15 : decode cX5_init 15 = .ok (.putfield 15, 3) := by decide +kernel
theorem dX5_init_18 : decode cX5_init 18 = .ok (.aload_n 0, 1) := by decide +kernel
theorem dX5_init_19 : decode cX5_init 19 = .ok (.bipush 8, 2) := by decide +kernel
theorem dX5_init_21 : decode cX5_init 21 = .ok (.newarray .int, 2) := by decide +kernel
theorem dX5_init_23 : decode cX5_init 23 = .ok (.putfield 18, 3) := by decide +kernel
theorem dX5_init_26 : decode cX5_init 26 = .ok (.aload_n 0, 1) := by decide +kernel
theorem dX5_init_27 : decode cX5_init 27 = .ok (.bipush 8, 2) := by decide +kernel
theorem dX5_init_29 : decode cX5_init 29 = .ok (.newarray .int, 2) := by decide +kernel
theorem dX5_init_31 : decode cX5_init 31 = .ok (.putfield 21, 3) := by decide +kernel
theorem dX5_init_34 : decode cX5_init 34 = .ok (.aload_n 0, 1) := by decide +kernel
theorem dX5_init_35 : decode cX5_init 35 = .ok (.bipush 8, 2) := by decide +kernel
theorem dX5_init_37 : decode cX5_init 37 = .ok (.newarray .int, 2) := by decide +kernel
theorem dX5_init_39 : decode cX5_init 39 = .ok (.putfield 24, 3) := by decide +kernel
theorem dX5_init_42 : decode cX5_init 42 = .ok (.aload_n 0, 1) := by decide +kernel
theorem dX5_init_43 : decode cX5_init 43 = .ok (.bipush 8, 2) := by decide +kernel
theorem dX5_init_45 : decode cX5_init 45 = .ok (.newarray .int, 2) := by decide +kernel
theorem dX5_init_47 : decode cX5_init 47 = .ok (.putfield 27, 3) := by decide +kernel
theorem dX5_init_50 : decode cX5_init 50 = .ok (.aload_n 0, 1) := by decide +kernel
theorem dX5_init_51 : decode cX5_init 51 = .ok (.bipush 8, 2) := by decide +kernel
theorem dX5_init_53 : decode cX5_init 53 = .ok (.newarray .int, 2) := by decide +kernel
theorem dX5_init_55 : decode cX5_init 55 = .ok (.putfield 30, 3) := by decide +kernel
theorem dX5_init_58 : decode cX5_init 58 = .ok (.aload_n 0, 1) := by decide +kernel
theorem dX5_init_59 : decode cX5_init 59 = .ok (.bipush 64, 2) := by decide +kernel
theorem dX5_init_61 : decode cX5_init 61 = .ok (.newarray .int, 2) := by decide +kernel
theorem dX5_init_63 : decode cX5_init 63 = .ok (.putfield 33, 3) := by decide +kernel
theorem dX5_init_66 : decode cX5_init 66 = .ok (.aload_n 0, 1) := by decide +kernel
theorem dX5_init_67 : decode cX5_init 67 = .ok (.bipush 8, 2) := by decide +kernel
theorem dX5_init_69 : decode cX5_init 69 = .ok (.newarray .int, 2) := by decide +kernel
theorem dX5_init_71 : decode cX5_init 71 = .ok (.putfield 36, 3) := by decide +kernel
theorem dX5_init_74 : decode cX5_init 74 = .ok (.aload_n 0, 1) := by decide +kernel
theorem dX5_init_75 : decode cX5_init 75 = .ok (.iconst 3, 1) := by decide +kernel
theorem dX5_init_76 : decode cX5_init 76 = .ok (.newarray .int, 2) := by decide +kernel
theorem dX5_init_78 : decode cX5_init 78 = .ok (.putfield 39, 3) := by decide +kernel
theorem dX5_init_81 : decode cX5_init 81 = .ok (.return_, 1) := by decide +kernel
theorem dX5_clear_0 : decode cX5_clear 0 = .ok (.aload_n 0, 1) := by decide +kernel
theorem dX5_clear_1 : decode cX5_clear 1 = .ok (.iconst 0, 1) := by decide +kernel
theorem dX5_clear_2 : decode cX5_clear 2 = .ok (.putfield 42, 3) := by decide +kernel
theorem dX5_clear_5 : decode cX5_clear 5 = .ok (.aload_n 0, 1) := by decide +kernel
theorem dX5_clear_6 : decode cX5_clear 6 = .ok (.iconst 0, 1) := by decide +kernel
theorem dX5_clear_7 : decode cX5_clear 7 = .ok (.putfield 46, 3) := by decide +kernel
theorem dX5_clear_10 : decode cX5_clear 10 = .ok (.iconst 0, 1) := by decide +kernel
theorem dX5_clear_11 : decode cX5_clear 11 = .ok (.istore_n 1, 1) := by decide +kernel
theorem dX5_clear_12 : decode cX5_clear 12 = .ok (.iload_n 1, 1) := by decide +kernel
theorem dX5_clear_13 : decode cX5_clear 13 = .ok (.bipush 8, 2) := by decide +kernel
theorem dX5_clear_15 : decode cX5_clear 15 = .ok (.if_icmp .ge 16, 3) := by decide +kernel
theorem dX5_clear_18 : decode cX5_clear 18 = .ok (.aload_n 0, 1) := by decide +kernel
theorem dX5_clear_19 : decode cX5_clear 19 = .ok (.getfield 30, 3) := by decide +kernel
theorem dX5_clear_22 : decode cX5_clear 22 = .ok (.iload_n 1, 1) := by decide +kernel
theorem dX5_clear_23 : decode cX5_clear 23 = .ok (.iconst 0, 1) := by decide +kernel
theorem dX5_clear_24 : decode cX5_clear 24 = .ok (.iastore, 1) := by decide +kernel
theorem dX5_clear_25 : decode cX5_clear 25 = .ok (.iinc 1 1, 3) := by decide +kernel
theorem dX5_clear_28 : decode cX5_clear 28 = .ok (.goto (-16), 3) := by decide +kernel
theorem dX5_clear_31 : decode cX5_clear 31 = .ok (.iconst 0, 1) := by decide +kernel
theorem dX5_clear_32 : decode cX5_clear 32 = .ok (.istore_n 1, 1) := by decide +kernel
theorem dX5_clear_33 : decode cX5_clear 33 = .ok (.iload_n 1, 1) := by decide +kernel
theorem dX5_clear_34 : decode cX5_clear 34 = .ok (.bipush 64, 2) := by decide +kernel
theorem dX5_clear_36 : decode cX5_clear 36 = .ok (.if_icmp .ge 16, 3) := by decide +kernel
theorem dX5_clear_39 : decode cX5_clear 39 = .ok (.aload_n 0, 1) := by decide +kernel
theorem dX5_clear_40 : decode cX5_clear 40 = .ok (.getfield 33, 3) := by decide +kernel
theorem dX5_clear_43 : decode cX5_clear 43 = .ok (.iload_n 1, 1) := by decide +kernel
theorem dX5_clear_44 : decode cX5_clear 44 = .ok (.iconst 1, 1) := by decide +kernel
theorem dX5_clear_45 : decode cX5_clear 45 = .ok (.iastore, 1) := by decide +kernel
theorem dX5_clear_46 : decode cX5_clear 46 = .ok (.iinc 1 1, 3) := by decide +kernel
theorem dX5_clear_49 : decode cX5_clear 49 = .ok (.goto (-16), 3) := by decide +kernel
theorem dX5_clear_52 : decode cX5_clear 52 = .ok (.iconst 0, 1) := by decide +kernel
theorem dX5_clear_53 : decode cX5_clear 53 = .ok (.istore_n 1, 1) := by decide +kernel
theorem dX5_clear_54 : decode cX5_clear 54 = .ok (.iload_n 1, 1) := by decide +kernel
theorem dX5_clear_55 : decode cX5_clear 55 = .ok (.bipush 8, 2) := by decide +kernel
theorem dX5_clear_57 : decode cX5_clear 57 = .ok (.if_icmp .ge 16, 3) := by decide +kernel
theorem dX5_clear_60 : decode cX5_clear 60 = .ok (.aload_n 0, 1) := by decide +kernel
theorem dX5_clear_61 : decode cX5_clear 61 = .ok (.getfield 36, 3) := by decide +kernel
theorem dX5_clear_64 : decode cX5_clear 64 = .ok (.iload_n 1, 1) := by decide +kernel
theorem dX5_clear_65 : decode cX5_clear 65 = .ok (.iconst 1, 1) := by decide +kernel
theorem dX5_clear_66 : decode cX5_clear 66 = .ok (.iastore, 1) := by decide +kernel
theorem dX5_clear_67 : decode cX5_clear 67 = .ok (.iinc 1 1, 3) := by decide +kernel
theorem dX5_clear_70 : decode cX5_clear 70 = .ok (.goto (-16), 3) := by decide +kernel
theorem dX5_clear_73 : decode cX5_clear 73 = .ok (.iconst 0, 1) := by decide +kernel
theorem dX5_clear_74 : decode cX5_clear 74 = .ok (.istore_n 1, 1) := by decide +kernel
theorem dX5_clear_75 : decode cX5_clear 75 = .ok (.iload_n 1, 1) := by decide +kernel
theorem dX5_clear_76 : decode cX5_clear 76 = .ok (.iconst 3, 1) := by decide +kernel
theorem dX5_clear_77 : decode cX5_clear 77 = .ok (.if_icmp .ge 16, 3) := by decide +kernel
theorem dX5_clear_80 : decode cX5_clear 80 = .ok (.aload_n 0, 1) := by decide +kernel
theorem dX5_clear_81 : decode cX5_clear 81 = .ok (.getfield 39, 3) := by decide +kernel
theorem dX5_clear_84 : decode cX5_clear 84 = .ok (.iload_n 1, 1) := by decide +kernel
theorem dX5_clear_85 : decode cX5_clear 85 = .ok (.iconst 1, 1) := by decide +kernel
theorem dX5_clear_86 : decode cX5_clear 86 = .ok (.iastore, 1) := by decide +kernel
theorem dX5_clear_87 : decode cX5_clear 87 = .ok (.iinc 1 1, 3) := by decide +kernel
theorem dX5_clear_90 : decode cX5_clear 90 = .ok (.goto (-15), 3) := by decide +kernel
theorem dX5_clear_93 : decode cX5_clear 93 = .ok (.aload_n 0, 1) := by decide +kernel
theorem dX5_clear_94 : decode cX5_clear 94 = .ok (.iconst 3, 1) := by decide +kernel
theorem dX5_clear_95 : decode cX5_clear 95 = .ok (.putfield 49, 3) := by decide +kernel
theorem dX5_clear_98 : decode cX5_clear 98 = .ok (.aload_n 0, 1) := by decide +kernel
theorem dX5_clear_99 : decode cX5_clear 99 = .ok (.bipush 16, 2) := by decide +kernel
theorem dX5_clear_101 : decode cX5_clear 101 = .ok (.putfield 52, 3) := by decide +kernel
theorem dX5_clear_104 : decode cX5_clear 104 = .ok (.aload_n 0, 1) := by decide +kernel
theorem dX5_clear_105 : decode cX5_clear 105 = .ok (.bipush 20, 2) := by decide +kernel
theorem dX5_clear_107 : decode cX5_clear 107 = .ok (.putfield 55, 3) := by decide +kernel
theorem dX5_clear_110 : decode cX5_clear 110 = .ok (.aload_n 0, 1) := by decide +kernel
theorem dX5_clear_111 : decode cX5_clear 111 = .ok (.iconst 2, 1) := by decide +kernel
theorem dX5_clear_112 : decode cX5_clear 112 = .ok (.putfield 58, 3) := by decide +kernel
theorem dX5_clear_115 : decode cX5_clear 115 = .ok (.aload_n 0, 1) := by decide +kernel
theorem dX5_clear_116 : decode cX5_clear 116 = .ok (.iconst 1, 1) := by decide +kernel
theorem dX5_clear_117 : decode cX5_clear 117 = .ok (.putfield 61, 3) := by decide +kernel
theorem dX5_clear_120 : decode cX5_clear 120 = .ok (.return_, 1) := by decide +kernel
theorem dX5_has_0 : decode cX5_has 0 = .ok (.iload_n 1, 1) := by decide +kernel
theorem dX5_has_1 : decode cX5_has 1 = .ok (.ifCond .lt 15, 3) := by decide +kernel
theorem dX5_has_4 : decode cX5_has 4 = .ok (.iload_n 1, 1) := by decide +kernel
theorem dX5_has_5 : decode cX5_has 5 = .ok (.aload_n 0, 1) := by decide +kernel
theorem dX5_has_6 : decode cX5_has 6 = .ok (.getfield 46, 3) := by decide +kernel
theorem dX5_has_9 : decode cX5_has 9 = .ok (.if_icmp .ge 7, 3) := by decide +kernel
theorem dX5_has_12 : decode cX5_has 12 = .ok (.iconst 1, 1) := by decide +kernel
theorem dX5_has_13 : decode cX5_has 13 = .ok (.goto 4, 3) := by decide +kernel
theorem dX5_has_16 : decode cX5_has 16 = .ok (.iconst 0, 1) := by decide +kernel
theorem dX5_has_17 : decode cX5_has 17 = .ok (.ireturn, 1) := by decide +kernel
theorem dX5_mayStrike_0 : decode cX5_mayStrike 0 = .ok (.iload_n 1, 1) := by decide +kernel
theorem dX5_mayStrike_1 : decode cX5_mayStrike 1 = .ok (.iconst (-1), 1) := by decide +kernel
theorem dX5_mayStrike_2 : decode cX5_mayStrike 2 = .ok (.if_icmp .eq 11, 3) := by decide +kernel
theorem dX5_mayStrike_5 : decode cX5_mayStrike 5 = .ok (.aload_n 0, 1) := by decide +kernel
theorem dX5_mayStrike_6 : decode cX5_mayStrike 6 = .ok (.iload_n 1, 1) := by decide +kernel
theorem dX5_mayStrike_7 : decode cX5_mayStrike 7 = .ok (.invokevirtual 64, 3) := by decide +kernel
theorem dX5_mayStrike_10 : decode cX5_mayStrike 10 = .ok (.ifCond .eq 7, 3) := by decide +kernel
theorem dX5_mayStrike_13 : decode cX5_mayStrike 13 = .ok (.iconst 1, 1) := by decide +kernel
theorem dX5_mayStrike_14 : decode cX5_mayStrike 14 = .ok (.goto 4, 3) := by decide +kernel
theorem dX5_mayStrike_17 : decode cX5_mayStrike 17 = .ok (.iconst 0, 1) := by decide +kernel
theorem dX5_mayStrike_18 : decode cX5_mayStrike 18 = .ok (.ireturn, 1) := by decide +kernel
theorem dX5_canBeTold_0 : decode cX5_canBeTold 0 = .ok (.aload_n 0, 1) := by decide +kernel
theorem dX5_canBeTold_1 : decode cX5_canBeTold 1 = .ok (.getfield 46, 3) := by decide +kernel
theorem dX5_canBeTold_4 : decode cX5_canBeTold 4 = .ok (.aload_n 0, 1) := by decide +kernel
theorem dX5_canBeTold_5 : decode cX5_canBeTold 5 = .ok (.getfield 49, 3) := by decide +kernel
theorem dX5_canBeTold_8 : decode cX5_canBeTold 8 = .ok (.imul, 1) := by decide +kernel
theorem dX5_canBeTold_9 : decode cX5_canBeTold 9 = .ok (.bipush 15, 2) := by decide +kernel
theorem dX5_canBeTold_11 : decode cX5_canBeTold 11 = .ok (.if_icmp .gt 7, 3) := by decide +kernel
theorem dX5_canBeTold_14 : decode cX5_canBeTold 14 = .ok (.iconst 1, 1) := by decide +kernel
theorem dX5_canBeTold_15 : decode cX5_canBeTold 15 = .ok (.goto 4, 3) := by decide +kernel
theorem dX5_canBeTold_18 : decode cX5_canBeTold 18 = .ok (.iconst 0, 1) := by decide +kernel
theorem dX5_canBeTold_19 : decode cX5_canBeTold 19 = .ok (.ireturn, 1) := by decide +kernel
theorem dX5_isWhole_0 : decode cX5_isWhole 0 = .ok (.aload_n 0, 1) := by decide +kernel
theorem dX5_isWhole_1 : decode cX5_isWhole 1 = .ok (.getfield 42, 3) := by decide +kernel
theorem dX5_isWhole_4 : decode cX5_isWhole 4 = .ok (.ifCond .le 21, 3) := by decide +kernel
theorem dX5_isWhole_7 : decode cX5_isWhole 7 = .ok (.aload_n 0, 1) := by decide +kernel
theorem dX5_isWhole_8 : decode cX5_isWhole 8 = .ok (.getfield 46, 3) := by decide +kernel
theorem dX5_isWhole_11 : decode cX5_isWhole 11 = .ok (.ifCond .le 14, 3) := by decide +kernel
theorem dX5_isWhole_14 : decode cX5_isWhole 14 = .ok (.aload_n 0, 1) := by decide +kernel
theorem dX5_isWhole_15 : decode cX5_isWhole 15 = .ok (.invokevirtual 68, 3) := by decide +kernel
theorem dX5_isWhole_18 : decode cX5_isWhole 18 = .ok (.ifCond .le 7, 3) := by decide +kernel
theorem dX5_isWhole_21 : decode cX5_isWhole 21 = .ok (.iconst 1, 1) := by decide +kernel
theorem dX5_isWhole_22 : decode cX5_isWhole 22 = .ok (.goto 4, 3) := by decide +kernel
theorem dX5_isWhole_25 : decode cX5_isWhole 25 = .ok (.iconst 0, 1) := by decide +kernel
theorem dX5_isWhole_26 : decode cX5_isWhole 26 = .ok (.ireturn, 1) := by decide +kernel
theorem dX5_addPart_0 : decode cX5_addPart 0 = .ok (.aload_n 0, 1) := by decide +kernel
theorem dX5_addPart_1 : decode cX5_addPart 1 = .ok (.getfield 42, 3) := by decide +kernel
theorem dX5_addPart_4 : decode cX5_addPart 4 = .ok (.iconst 5, 1) := by decide +kernel
theorem dX5_addPart_5 : decode cX5_addPart 5 = .ok (.if_icmp .ge 33, 3) := by decide +kernel
theorem dX5_addPart_8 : decode cX5_addPart 8 = .ok (.aload_n 0, 1) := by decide +kernel
theorem dX5_addPart_9 : decode cX5_addPart 9 = .ok (.getfield 9, 3) := by decide +kernel
theorem dX5_addPart_12 : decode cX5_addPart 12 = .ok (.aload_n 0, 1) := by decide +kernel
theorem dX5_addPart_13 : decode cX5_addPart 13 = .ok (.getfield 42, 3) := by decide +kernel
theorem dX5_addPart_16 : decode cX5_addPart 16 = .ok (.iload_n 1, 1) := by decide +kernel
theorem dX5_addPart_17 : decode cX5_addPart 17 = .ok (.iastore, 1) := by decide +kernel
theorem dX5_addPart_18 : decode cX5_addPart 18 = .ok (.aload_n 0, 1) := by decide +kernel
theorem dX5_addPart_19 : decode cX5_addPart 19 = .ok (.getfield 15, 3) := by decide +kernel
theorem dX5_addPart_22 : decode cX5_addPart 22 = .ok (.aload_n 0, 1) := by decide +kernel
theorem dX5_addPart_23 : decode cX5_addPart 23 = .ok (.getfield 42, 3) := by decide +kernel
theorem dX5_addPart_26 : decode cX5_addPart 26 = .ok (.iload_n 2, 1) := by decide +kernel
theorem dX5_addPart_27 : decode cX5_addPart 27 = .ok (.iastore, 1) := by decide +kernel
theorem dX5_addPart_28 : decode cX5_addPart 28 = .ok (.aload_n 0, 1) := by decide +kernel
theorem dX5_addPart_29 : decode cX5_addPart 29 = .ok (.dup, 1) := by decide +kernel
theorem dX5_addPart_30 : decode cX5_addPart 30 = .ok (.getfield 42, 3) := by decide +kernel
theorem dX5_addPart_33 : decode cX5_addPart 33 = .ok (.iconst 1, 1) := by decide +kernel
theorem dX5_addPart_34 : decode cX5_addPart 34 = .ok (.iadd, 1) := by decide +kernel
theorem dX5_addPart_35 : decode cX5_addPart 35 = .ok (.putfield 42, 3) := by decide +kernel
theorem dX5_addPart_38 : decode cX5_addPart 38 = .ok (.return_, 1) := by decide +kernel
theorem dX5_addChild_0 : decode cX5_addChild 0 = .ok (.aload_n 0, 1) := by decide +kernel
theorem dX5_addChild_1 : decode cX5_addChild 1 = .ok (.getfield 46, 3) := by decide +kernel
theorem dX5_addChild_4 : decode cX5_addChild 4 = .ok (.bipush 8, 2) := by decide +kernel
theorem dX5_addChild_6 : decode cX5_addChild 6 = .ok (.if_icmp .ge 54, 3) := by decide +kernel
theorem dX5_addChild_9 : decode cX5_addChild 9 = .ok (.aload_n 0, 1) := by decide +kernel
theorem dX5_addChild_10 : decode cX5_addChild 10 = .ok (.getfield 18, 3) := by decide +kernel
theorem dX5_addChild_13 : decode cX5_addChild 13 = .ok (.aload_n 0, 1) := by decide +kernel
theorem dX5_addChild_14 : decode cX5_addChild 14 = .ok (.getfield 46, 3) := by decide +kernel
theorem dX5_addChild_17 : decode cX5_addChild 17 = .ok (.iload_n 1, 1) := by decide +kernel
theorem dX5_addChild_18 : decode cX5_addChild 18 = .ok (.iastore, 1) := by decide +kernel
theorem dX5_addChild_19 : decode cX5_addChild 19 = .ok (.aload_n 0, 1) := by decide +kernel
theorem dX5_addChild_20 : decode cX5_addChild 20 = .ok (.getfield 21, 3) := by decide +kernel
theorem dX5_addChild_23 : decode cX5_addChild 23 = .ok (.aload_n 0, 1) := by decide +kernel
theorem dX5_addChild_24 : decode cX5_addChild 24 = .ok (.getfield 46, 3) := by decide +kernel
theorem dX5_addChild_27 : decode cX5_addChild 27 = .ok (.iload_n 2, 1) := by decide +kernel
theorem dX5_addChild_28 : decode cX5_addChild 28 = .ok (.iastore, 1) := by decide +kernel
theorem dX5_addChild_29 : decode cX5_addChild 29 = .ok (.aload_n 0, 1) := by decide +kernel
theorem dX5_addChild_30 : decode cX5_addChild 30 = .ok (.getfield 24, 3) := by decide +kernel
theorem dX5_addChild_33 : decode cX5_addChild 33 = .ok (.aload_n 0, 1) := by decide +kernel
theorem dX5_addChild_34 : decode cX5_addChild 34 = .ok (.getfield 46, 3) := by decide +kernel
theorem dX5_addChild_37 : decode cX5_addChild 37 = .ok (.iload_n 3, 1) := by decide +kernel
theorem dX5_addChild_38 : decode cX5_addChild 38 = .ok (.iastore, 1) := by decide +kernel
theorem dX5_addChild_39 : decode cX5_addChild 39 = .ok (.aload_n 0, 1) := by decide +kernel
theorem dX5_addChild_40 : decode cX5_addChild 40 = .ok (.getfield 27, 3) := by decide +kernel
theorem dX5_addChild_43 : decode cX5_addChild 43 = .ok (.aload_n 0, 1) := by decide +kernel
theorem dX5_addChild_44 : decode cX5_addChild 44 = .ok (.getfield 46, 3) := by decide +kernel
theorem dX5_addChild_47 : decode cX5_addChild 47 = .ok (.iload 4, 2) := by decide +kernel
theorem dX5_addChild_49 : decode cX5_addChild 49 = .ok (.iastore, 1) := by decide +kernel
theorem dX5_addChild_50 : decode cX5_addChild 50 = .ok (.aload_n 0, 1) := by decide +kernel
theorem dX5_addChild_51 : decode cX5_addChild 51 = .ok (.dup, 1) := by decide +kernel
theorem dX5_addChild_52 : decode cX5_addChild 52 = .ok (.getfield 46, 3) := by decide +kernel
theorem dX5_addChild_55 : decode cX5_addChild 55 = .ok (.iconst 1, 1) := by decide +kernel
theorem dX5_addChild_56 : decode cX5_addChild 56 = .ok (.iadd, 1) := by decide +kernel
theorem dX5_addChild_57 : decode cX5_addChild 57 = .ok (.putfield 46, 3) := by decide +kernel
theorem dX5_addChild_60 : decode cX5_addChild 60 = .ok (.return_, 1) := by decide +kernel
theorem dX5_setSpot_0 : decode cX5_setSpot 0 = .ok (.iload_n 1, 1) := by decide +kernel
theorem dX5_setSpot_1 : decode cX5_setSpot 1 = .ok (.ifCond .lt 16, 3) := by decide +kernel
theorem dX5_setSpot_4 : decode cX5_setSpot 4 = .ok (.iload_n 1, 1) := by decide +kernel
theorem dX5_setSpot_5 : decode cX5_setSpot 5 = .ok (.bipush 8, 2) := by decide +kernel
theorem dX5_setSpot_7 : decode cX5_setSpot 7 = .ok (.if_icmp .ge 10, 3) := by decide +kernel
theorem dX5_setSpot_10 : decode cX5_setSpot 10 = .ok (.aload_n 0, 1) := by decide +kernel
theorem dX5_setSpot_11 : decode cX5_setSpot 11 = .ok (.getfield 30, 3) := by decide +kernel
theorem dX5_setSpot_14 : decode cX5_setSpot 14 = .ok (.iload_n 1, 1) := by decide +kernel
theorem dX5_setSpot_15 : decode cX5_setSpot 15 = .ok (.iload_n 2, 1) := by decide +kernel
theorem dX5_setSpot_16 : decode cX5_setSpot 16 = .ok (.iastore, 1) := by decide +kernel
theorem dX5_setSpot_17 : decode cX5_setSpot 17 = .ok (.return_, 1) := by decide +kernel
theorem dX5_setTie_0 : decode cX5_setTie 0 = .ok (.iload_n 1, 1) := by decide +kernel
theorem dX5_setTie_1 : decode cX5_setTie 1 = .ok (.ifCond .lt 31, 3) := by decide +kernel
theorem dX5_setTie_4 : decode cX5_setTie 4 = .ok (.iload_n 1, 1) := by decide +kernel
theorem dX5_setTie_5 : decode cX5_setTie 5 = .ok (.bipush 8, 2) := by decide +kernel
theorem dX5_setTie_7 : decode cX5_setTie 7 = .ok (.if_icmp .ge 25, 3) := by decide +kernel
theorem dX5_setTie_10 : decode cX5_setTie 10 = .ok (.iload_n 2, 1) := by decide +kernel
theorem dX5_setTie_11 : decode cX5_setTie 11 = .ok (.ifCond .lt 21, 3) := by decide +kernel
theorem dX5_setTie_14 : decode cX5_setTie 14 = .ok (.iload_n 2, 1) := by decide +kernel
theorem dX5_setTie_15 : decode cX5_setTie 15 = .ok (.bipush 8, 2) := by decide +kernel
theorem dX5_setTie_17 : decode cX5_setTie 17 = .ok (.if_icmp .ge 15, 3) := by decide +kernel
theorem dX5_setTie_20 : decode cX5_setTie 20 = .ok (.aload_n 0, 1) := by decide +kernel
theorem dX5_setTie_21 : decode cX5_setTie 21 = .ok (.getfield 33, 3) := by decide +kernel
theorem dX5_setTie_24 : decode cX5_setTie 24 = .ok (.iload_n 1, 1) := by decide +kernel
theorem dX5_setTie_25 : decode cX5_setTie 25 = .ok (.bipush 8, 2) := by decide +kernel
theorem dX5_setTie_27 : decode cX5_setTie 27 = .ok (.imul, 1) := by decide +kernel
theorem dX5_setTie_28 : decode cX5_setTie 28 = .ok (.iload_n 2, 1) := by decide +kernel
theorem dX5_setTie_29 : decode cX5_setTie 29 = .ok (.iadd, 1) := by decide +kernel
theorem dX5_setTie_30 : decode cX5_setTie 30 = .ok (.iload_n 3, 1) := by decide +kernel
theorem dX5_setTie_31 : decode cX5_setTie 31 = .ok (.iastore, 1) := by decide +kernel
theorem dX5_setTie_32 : decode cX5_setTie 32 = .ok (.return_, 1) := by decide +kernel
theorem dX5_setTurned_0 : decode cX5_setTurned 0 = .ok (.iload_n 1, 1) := by decide +kernel
theorem dX5_setTurned_1 : decode cX5_setTurned 1 = .ok (.ifCond .lt 16, 3) := by decide +kernel
theorem dX5_setTurned_4 : decode cX5_setTurned 4 = .ok (.iload_n 1, 1) := by decide +kernel
theorem dX5_setTurned_5 : decode cX5_setTurned 5 = .ok (.bipush 8, 2) := by decide +kernel
theorem dX5_setTurned_7 : decode cX5_setTurned 7 = .ok (.if_icmp .ge 10, 3) := by decide +kernel
theorem dX5_setTurned_10 : decode cX5_setTurned 10 = .ok (.aload_n 0, 1) := by decide +kernel
theorem dX5_setTurned_11 : decode cX5_setTurned 11 = .ok (.getfield 36, 3) := by decide +kernel
theorem dX5_setTurned_14 : decode cX5_setTurned 14 = .ok (.iload_n 1, 1) := by decide +kernel
theorem dX5_setTurned_15 : decode cX5_setTurned 15 = .ok (.iload_n 2, 1) := by decide +kernel
theorem dX5_setTurned_16 : decode cX5_setTurned 16 = .ok (.iastore, 1) := by decide +kernel
theorem dX5_setTurned_17 : decode cX5_setTurned 17 = .ok (.return_, 1) := by decide +kernel
theorem dX5_setRing_0 : decode cX5_setRing 0 = .ok (.iload_n 1, 1) := by decide +kernel
theorem dX5_setRing_1 : decode cX5_setRing 1 = .ok (.ifCond .lt 15, 3) := by decide +kernel
theorem dX5_setRing_4 : decode cX5_setRing 4 = .ok (.iload_n 1, 1) := by decide +kernel
theorem dX5_setRing_5 : decode cX5_setRing 5 = .ok (.iconst 3, 1) := by decide +kernel
theorem dX5_setRing_6 : decode cX5_setRing 6 = .ok (.if_icmp .ge 10, 3) := by decide +kernel
theorem dX5_setRing_9 : decode cX5_setRing 9 = .ok (.aload_n 0, 1) := by decide +kernel
theorem dX5_setRing_10 : decode cX5_setRing 10 = .ok (.getfield 39, 3) := by decide +kernel
theorem dX5_setRing_13 : decode cX5_setRing 13 = .ok (.iload_n 1, 1) := by decide +kernel
theorem dX5_setRing_14 : decode cX5_setRing 14 = .ok (.iload_n 2, 1) := by decide +kernel
theorem dX5_setRing_15 : decode cX5_setRing 15 = .ok (.iastore, 1) := by decide +kernel
theorem dX5_setRing_16 : decode cX5_setRing 16 = .ok (.return_, 1) := by decide +kernel
theorem dX5_tieOf_0 : decode cX5_tieOf 0 = .ok (.aload_n 0, 1) := by decide +kernel
theorem dX5_tieOf_1 : decode cX5_tieOf 1 = .ok (.iload_n 1, 1) := by decide +kernel
theorem dX5_tieOf_2 : decode cX5_tieOf 2 = .ok (.invokevirtual 64, 3) := by decide +kernel
theorem dX5_tieOf_5 : decode cX5_tieOf 5 = .ok (.ifCond .eq 25, 3) := by decide +kernel
theorem dX5_tieOf_8 : decode cX5_tieOf 8 = .ok (.aload_n 0, 1) := by decide +kernel
theorem dX5_tieOf_9 : decode cX5_tieOf 9 = .ok (.iload_n 2, 1) := by decide +kernel
theorem dX5_tieOf_10 : decode cX5_tieOf 10 = .ok (.invokevirtual 64, 3) := by decide +kernel
theorem dX5_tieOf_13 : decode cX5_tieOf 13 = .ok (.ifCond .eq 17, 3) := by decide +kernel
theorem dX5_tieOf_16 : decode cX5_tieOf 16 = .ok (.aload_n 0, 1) := by decide +kernel
theorem dX5_tieOf_17 : decode cX5_tieOf 17 = .ok (.getfield 33, 3) := by decide +kernel
theorem dX5_tieOf_20 : decode cX5_tieOf 20 = .ok (.iload_n 1, 1) := by decide +kernel
theorem dX5_tieOf_21 : decode cX5_tieOf 21 = .ok (.bipush 8, 2) := by decide +kernel
theorem dX5_tieOf_23 : decode cX5_tieOf 23 = .ok (.imul, 1) := by decide +kernel
theorem dX5_tieOf_24 : decode cX5_tieOf 24 = .ok (.iload_n 2, 1) := by decide +kernel
theorem dX5_tieOf_25 : decode cX5_tieOf 25 = .ok (.iadd, 1) := by decide +kernel
theorem dX5_tieOf_26 : decode cX5_tieOf 26 = .ok (.iaload, 1) := by decide +kernel
theorem dX5_tieOf_27 : decode cX5_tieOf 27 = .ok (.goto 4, 3) := by decide +kernel
theorem dX5_tieOf_30 : decode cX5_tieOf 30 = .ok (.iconst 1, 1) := by decide +kernel
theorem dX5_tieOf_31 : decode cX5_tieOf 31 = .ok (.ireturn, 1) := by decide +kernel
theorem dX5_turnedOfAll_0 : decode cX5_turnedOfAll 0 = .ok (.iconst 0, 1) := by decide +kernel
theorem dX5_turnedOfAll_1 : decode cX5_turnedOfAll 1 = .ok (.istore_n 1, 1) := by decide +kernel
theorem dX5_turnedOfAll_2 : decode cX5_turnedOfAll 2 = .ok (.iconst 0, 1) := by decide +kernel
theorem dX5_turnedOfAll_3 : decode cX5_turnedOfAll 3 = .ok (.istore_n 2, 1) := by decide +kernel
theorem dX5_turnedOfAll_4 : decode cX5_turnedOfAll 4 = .ok (.iload_n 2, 1) := by decide +kernel
theorem dX5_turnedOfAll_5 : decode cX5_turnedOfAll 5 = .ok (.bipush 8, 2) := by decide +kernel
theorem dX5_turnedOfAll_7 : decode cX5_turnedOfAll 7 = .ok (.if_icmp .ge 18, 3) := by decide +kernel
theorem dX5_turnedOfAll_10 : decode cX5_turnedOfAll 10 = .ok (.iload_n 1, 1) := by decide +kernel
theorem dX5_turnedOfAll_11 : decode cX5_turnedOfAll 11 = .ok (.aload_n 0, 1) := by decide +kernel
theorem dX5_turnedOfAll_12 : decode cX5_turnedOfAll 12 = .ok (.getfield 36, 3) := by decide +kernel
theorem dX5_turnedOfAll_15 : decode cX5_turnedOfAll 15 = .ok (.iload_n 2, 1) := by decide +kernel
theorem dX5_turnedOfAll_16 : decode cX5_turnedOfAll 16 = .ok (.iaload, 1) := by decide +kernel
theorem dX5_turnedOfAll_17 : decode cX5_turnedOfAll 17 = .ok (.iadd, 1) := by decide +kernel
theorem dX5_turnedOfAll_18 : decode cX5_turnedOfAll 18 = .ok (.istore_n 1, 1) := by decide +kernel
theorem dX5_turnedOfAll_19 : decode cX5_turnedOfAll 19 = .ok (.iinc 2 1, 3) := by decide +kernel
theorem dX5_turnedOfAll_22 : decode cX5_turnedOfAll 22 = .ok (.goto (-18), 3) := by decide +kernel
theorem dX5_turnedOfAll_25 : decode cX5_turnedOfAll 25 = .ok (.iload_n 1, 1) := by decide +kernel
theorem dX5_turnedOfAll_26 : decode cX5_turnedOfAll 26 = .ok (.ireturn, 1) := by decide +kernel
theorem dX5_weightOf_0 : decode cX5_weightOf 0 = .ok (.iload_n 1, 1) := by decide +kernel
theorem dX5_weightOf_1 : decode cX5_weightOf 1 = .ok (.invokestatic 72, 3) := by decide +kernel
theorem dX5_weightOf_4 : decode cX5_weightOf 4 = .ok (.istore_n 2, 1) := by decide +kernel
theorem dX5_weightOf_5 : decode cX5_weightOf 5 = .ok (.iload_n 2, 1) := by decide +kernel
theorem dX5_weightOf_6 : decode cX5_weightOf 6 = .ok (.ifCond .lt 17, 3) := by decide +kernel
theorem dX5_weightOf_9 : decode cX5_weightOf 9 = .ok (.iload_n 2, 1) := by decide +kernel
theorem dX5_weightOf_10 : decode cX5_weightOf 10 = .ok (.iconst 3, 1) := by decide +kernel
theorem dX5_weightOf_11 : decode cX5_weightOf 11 = .ok (.if_icmp .ge 12, 3) := by decide +kernel
theorem dX5_weightOf_14 : decode cX5_weightOf 14 = .ok (.aload_n 0, 1) := by decide +kernel
theorem dX5_weightOf_15 : decode cX5_weightOf 15 = .ok (.getfield 39, 3) := by decide +kernel
theorem dX5_weightOf_18 : decode cX5_weightOf 18 = .ok (.iload_n 2, 1) := by decide +kernel
theorem dX5_weightOf_19 : decode cX5_weightOf 19 = .ok (.iaload, 1) := by decide +kernel
theorem dX5_weightOf_20 : decode cX5_weightOf 20 = .ok (.goto 4, 3) := by decide +kernel
theorem dX5_weightOf_23 : decode cX5_weightOf 23 = .ok (.iconst 0, 1) := by decide +kernel
theorem dX5_weightOf_24 : decode cX5_weightOf 24 = .ok (.ireturn, 1) := by decide +kernel
theorem dX5_dangerOf_0 : decode cX5_dangerOf 0 = .ok (.aload_n 0, 1) := by decide +kernel
theorem dX5_dangerOf_1 : decode cX5_dangerOf 1 = .ok (.iload_n 1, 1) := by decide +kernel
theorem dX5_dangerOf_2 : decode cX5_dangerOf 2 = .ok (.invokevirtual 64, 3) := by decide +kernel
theorem dX5_dangerOf_5 : decode cX5_dangerOf 5 = .ok (.ifCond .eq 15, 3) := by decide +kernel
theorem dX5_dangerOf_8 : decode cX5_dangerOf 8 = .ok (.aload_n 0, 1) := by decide +kernel
theorem dX5_dangerOf_9 : decode cX5_dangerOf 9 = .ok (.getfield 30, 3) := by decide +kernel
theorem dX5_dangerOf_12 : decode cX5_dangerOf 12 = .ok (.iload_n 1, 1) := by decide +kernel
theorem dX5_dangerOf_13 : decode cX5_dangerOf 13 = .ok (.iaload, 1) := by decide +kernel
theorem dX5_dangerOf_14 : decode cX5_dangerOf 14 = .ok (.invokestatic 72, 3) := by decide +kernel
theorem dX5_dangerOf_17 : decode cX5_dangerOf 17 = .ok (.goto 4, 3) := by decide +kernel
theorem dX5_dangerOf_20 : decode cX5_dangerOf 20 = .ok (.iconst 0, 1) := by decide +kernel
theorem dX5_dangerOf_21 : decode cX5_dangerOf 21 = .ok (.istore_n 3, 1) := by decide +kernel
theorem dX5_dangerOf_22 : decode cX5_dangerOf 22 = .ok (.iload_n 3, 1) := by decide +kernel
theorem dX5_dangerOf_23 : decode cX5_dangerOf 23 = .ok (.iconst 1, 1) := by decide +kernel
theorem dX5_dangerOf_24 : decode cX5_dangerOf 24 = .ok (.if_icmp .lt 8, 3) := by decide +kernel
theorem dX5_dangerOf_27 : decode cX5_dangerOf 27 = .ok (.iload_n 3, 1) := by decide +kernel
theorem dX5_dangerOf_28 : decode cX5_dangerOf 28 = .ok (.iload_n 2, 1) := by decide +kernel
theorem dX5_dangerOf_29 : decode cX5_dangerOf 29 = .ok (.if_icmp .le 5, 3) := by decide +kernel
theorem dX5_dangerOf_32 : decode cX5_dangerOf 32 = .ok (.iconst 0, 1) := by decide +kernel
theorem dX5_dangerOf_33 : decode cX5_dangerOf 33 = .ok (.ireturn, 1) := by decide +kernel
theorem dX5_dangerOf_34 : decode cX5_dangerOf 34 = .ok (.aload_n 0, 1) := by decide +kernel
theorem dX5_dangerOf_35 : decode cX5_dangerOf 35 = .ok (.getfield 36, 3) := by decide +kernel
theorem dX5_dangerOf_38 : decode cX5_dangerOf 38 = .ok (.bipush 8, 2) := by decide +kernel
theorem dX5_dangerOf_40 : decode cX5_dangerOf 40 = .ok (.aload_n 0, 1) := by decide +kernel
theorem dX5_dangerOf_41 : decode cX5_dangerOf 41 = .ok (.getfield 30, 3) := by decide +kernel
theorem dX5_dangerOf_44 : decode cX5_dangerOf 44 = .ok (.iload_n 1, 1) := by decide +kernel
theorem dX5_dangerOf_45 : decode cX5_dangerOf 45 = .ok (.iaload, 1) := by decide +kernel
theorem dX5_dangerOf_46 : decode cX5_dangerOf 46 = .ok (.invokestatic 76, 3) := by decide +kernel
theorem dX5_dangerOf_49 : decode cX5_dangerOf 49 = .ok (.isub, 1) := by decide +kernel
theorem dX5_dangerOf_50 : decode cX5_dangerOf 50 = .ok (.bipush 7, 2) := by decide +kernel
theorem dX5_dangerOf_52 : decode cX5_dangerOf 52 = .ok (.iand, 1) := by decide +kernel
theorem dX5_dangerOf_53 : decode cX5_dangerOf 53 = .ok (.iaload, 1) := by decide +kernel
theorem dX5_dangerOf_54 : decode cX5_dangerOf 54 = .ok (.ireturn, 1) := by decide +kernel
theorem dX5_isSafe_0 : decode cX5_isSafe 0 = .ok (.aload_n 0, 1) := by decide +kernel
theorem dX5_isSafe_1 : decode cX5_isSafe 1 = .ok (.invokevirtual 68, 3) := by decide +kernel
theorem dX5_isSafe_4 : decode cX5_isSafe 4 = .ok (.istore_n 3, 1) := by decide +kernel
theorem dX5_isSafe_5 : decode cX5_isSafe 5 = .ok (.iconst 0, 1) := by decide +kernel
theorem dX5_isSafe_6 : decode cX5_isSafe 6 = .ok (.istore 4, 2) := by decide +kernel
theorem dX5_isSafe_8 : decode cX5_isSafe 8 = .ok (.iload 4, 2) := by decide +kernel
theorem dX5_isSafe_10 : decode cX5_isSafe 10 = .ok (.aload_n 0, 1) := by decide +kernel
theorem dX5_isSafe_11 : decode cX5_isSafe 11 = .ok (.getfield 46, 3) := by decide +kernel
theorem dX5_isSafe_14 : decode cX5_isSafe 14 = .ok (.if_icmp .ge 27, 3) := by decide +kernel
theorem dX5_isSafe_17 : decode cX5_isSafe 17 = .ok (.bipush 100, 2) := by decide +kernel
theorem dX5_isSafe_19 : decode cX5_isSafe 19 = .ok (.aload_n 0, 1) := by decide +kernel
theorem dX5_isSafe_20 : decode cX5_isSafe 20 = .ok (.iload 4, 2) := by decide +kernel
theorem dX5_isSafe_22 : decode cX5_isSafe 22 = .ok (.iload_n 1, 1) := by decide +kernel
theorem dX5_isSafe_23 : decode cX5_isSafe 23 = .ok (.invokevirtual 79, 3) := by decide +kernel
theorem dX5_isSafe_26 : decode cX5_isSafe 26 = .ok (.imul, 1) := by decide +kernel
theorem dX5_isSafe_27 : decode cX5_isSafe 27 = .ok (.iload_n 2, 1) := by decide +kernel
theorem dX5_isSafe_28 : decode cX5_isSafe 28 = .ok (.iload_n 3, 1) := by decide +kernel
theorem dX5_isSafe_29 : decode cX5_isSafe 29 = .ok (.imul, 1) := by decide +kernel
theorem dX5_isSafe_30 : decode cX5_isSafe 30 = .ok (.if_icmp .le 5, 3) := by decide +kernel
theorem dX5_isSafe_33 : decode cX5_isSafe 33 = .ok (.iconst 0, 1) := by decide +kernel
theorem dX5_isSafe_34 : decode cX5_isSafe 34 = .ok (.ireturn, 1) := by decide +kernel
theorem dX5_isSafe_35 : decode cX5_isSafe 35 = .ok (.iinc 4 1, 3) := by decide +kernel
theorem dX5_isSafe_38 : decode cX5_isSafe 38 = .ok (.goto (-30), 3) := by decide +kernel
theorem dX5_isSafe_41 : decode cX5_isSafe 41 = .ok (.iconst 1, 1) := by decide +kernel
theorem dX5_isSafe_42 : decode cX5_isSafe 42 = .ok (.ireturn, 1) := by decide +kernel
theorem dX5_answer_0 : decode cX5_answer 0 = .ok (.iload_n 1, 1) := by decide +kernel
theorem dX5_answer_1 : decode cX5_answer 1 = .ok (.bipush 10, 2) := by decide +kernel
theorem dX5_answer_3 : decode cX5_answer 3 = .ok (.if_icmp .lt 19, 3) := by decide +kernel
theorem dX5_answer_6 : decode cX5_answer 6 = .ok (.iload_n 1, 1) := by decide +kernel
theorem dX5_answer_7 : decode cX5_answer 7 = .ok (.bipush 18, 2) := by decide +kernel
theorem dX5_answer_9 : decode cX5_answer 9 = .ok (.if_icmp .ge 13, 3) := by decide +kernel
theorem dX5_answer_12 : decode cX5_answer 12 = .ok (.aload_n 0, 1) := by decide +kernel
theorem dX5_answer_13 : decode cX5_answer 13 = .ok (.getfield 36, 3) := by decide +kernel
theorem dX5_answer_16 : decode cX5_answer 16 = .ok (.iload_n 1, 1) := by decide +kernel
theorem dX5_answer_17 : decode cX5_answer 17 = .ok (.bipush 10, 2) := by decide +kernel
theorem dX5_answer_19 : decode cX5_answer 19 = .ok (.isub, 1) := by decide +kernel
theorem dX5_answer_20 : decode cX5_answer 20 = .ok (.iaload, 1) := by decide +kernel
theorem dX5_answer_21 : decode cX5_answer 21 = .ok (.ireturn, 1) := by decide +kernel
theorem dX5_answer_22 : decode cX5_answer 22 = .ok (.iload_n 1, 1) := by decide +kernel
theorem dX5_answer_23 : decode cX5_answer 23 = .ok (.bipush 20, 2) := by decide +kernel
theorem dX5_answer_25 : decode cX5_answer 25 = .ok (.if_icmp .lt 19, 3) := by decide +kernel
theorem dX5_answer_28 : decode cX5_answer 28 = .ok (.iload_n 1, 1) := by decide +kernel
theorem dX5_answer_29 : decode cX5_answer 29 = .ok (.bipush 23, 2) := by decide +kernel
theorem dX5_answer_31 : decode cX5_answer 31 = .ok (.if_icmp .ge 13, 3) := by decide +kernel
theorem dX5_answer_34 : decode cX5_answer 34 = .ok (.aload_n 0, 1) := by decide +kernel
theorem dX5_answer_35 : decode cX5_answer 35 = .ok (.getfield 39, 3) := by decide +kernel
theorem dX5_answer_38 : decode cX5_answer 38 = .ok (.iload_n 1, 1) := by decide +kernel
theorem dX5_answer_39 : decode cX5_answer 39 = .ok (.bipush 20, 2) := by decide +kernel
theorem dX5_answer_41 : decode cX5_answer 41 = .ok (.isub, 1) := by decide +kernel
theorem dX5_answer_42 : decode cX5_answer 42 = .ok (.iaload, 1) := by decide +kernel
theorem dX5_answer_43 : decode cX5_answer 43 = .ok (.ireturn, 1) := by decide +kernel
theorem dX5_answer_44 : decode cX5_answer 44 = .ok (.iload_n 1, 1) := by decide +kernel
theorem dX5_answer_45 : decode cX5_answer 45 = .ok (.bipush 30, 2) := by decide +kernel
theorem dX5_answer_47 : decode cX5_answer 47 = .ok (.if_icmp .lt 24, 3) := by decide +kernel
theorem dX5_answer_50 : decode cX5_answer 50 = .ok (.iload_n 1, 1) := by decide +kernel
theorem dX5_answer_51 : decode cX5_answer 51 = .ok (.bipush 30, 2) := by decide +kernel
theorem dX5_answer_53 : decode cX5_answer 53 = .ok (.aload_n 0, 1) := by decide +kernel
theorem dX5_answer_54 : decode cX5_answer 54 = .ok (.getfield 42, 3) := by decide +kernel
theorem dX5_answer_57 : decode cX5_answer 57 = .ok (.iadd, 1) := by decide +kernel
theorem dX5_answer_58 : decode cX5_answer 58 = .ok (.if_icmp .ge 13, 3) := by decide +kernel
theorem dX5_answer_61 : decode cX5_answer 61 = .ok (.aload_n 0, 1) := by decide +kernel
theorem dX5_answer_62 : decode cX5_answer 62 = .ok (.getfield 9, 3) := by decide +kernel
theorem dX5_answer_65 : decode cX5_answer 65 = .ok (.iload_n 1, 1) := by decide +kernel
theorem dX5_answer_66 : decode cX5_answer 66 = .ok (.bipush 30, 2) := by decide +kernel
theorem dX5_answer_68 : decode cX5_answer 68 = .ok (.isub, 1) := by decide +kernel
theorem dX5_answer_69 : decode cX5_answer 69 = .ok (.iaload, 1) := by decide +kernel
theorem dX5_answer_70 : decode cX5_answer 70 = .ok (.ireturn, 1) := by decide +kernel
theorem dX5_answer_71 : decode cX5_answer 71 = .ok (.iload_n 1, 1) := by decide +kernel
theorem dX5_answer_72 : decode cX5_answer 72 = .ok (.bipush 40, 2) := by decide +kernel
theorem dX5_answer_74 : decode cX5_answer 74 = .ok (.if_icmp .lt 24, 3) := by decide +kernel
theorem dX5_answer_77 : decode cX5_answer 77 = .ok (.iload_n 1, 1) := by decide +kernel
theorem dX5_answer_78 : decode cX5_answer 78 = .ok (.bipush 40, 2) := by decide +kernel
theorem dX5_answer_80 : decode cX5_answer 80 = .ok (.aload_n 0, 1) := by decide +kernel
theorem dX5_answer_81 : decode cX5_answer 81 = .ok (.getfield 42, 3) := by decide +kernel
theorem dX5_answer_84 : decode cX5_answer 84 = .ok (.iadd, 1) := by decide +kernel
theorem dX5_answer_85 : decode cX5_answer 85 = .ok (.if_icmp .ge 13, 3) := by decide +kernel
theorem dX5_answer_88 : decode cX5_answer 88 = .ok (.aload_n 0, 1) := by decide +kernel
theorem dX5_answer_89 : decode cX5_answer 89 = .ok (.getfield 15, 3) := by decide +kernel
theorem dX5_answer_92 : decode cX5_answer 92 = .ok (.iload_n 1, 1) := by decide +kernel
theorem dX5_answer_93 : decode cX5_answer 93 = .ok (.bipush 40, 2) := by decide +kernel
theorem dX5_answer_95 : decode cX5_answer 95 = .ok (.isub, 1) := by decide +kernel
theorem dX5_answer_96 : decode cX5_answer 96 = .ok (.iaload, 1) := by decide +kernel
theorem dX5_answer_97 : decode cX5_answer 97 = .ok (.ireturn, 1) := by decide +kernel
theorem dX5_answer_98 : decode cX5_answer 98 = .ok (.iload_n 1, 1) := by decide +kernel
theorem dX5_answer_99 : decode cX5_answer 99 = .ok (.tableswitch 76 0 6 #[41, 46, 51, 56, 61, 66, 71], 41) := by decide +kernel
theorem dX5_answer_140 : decode cX5_answer 140 = .ok (.aload_n 0, 1) := by decide +kernel
theorem dX5_answer_141 : decode cX5_answer 141 = .ok (.getfield 42, 3) := by decide +kernel
theorem dX5_answer_144 : decode cX5_answer 144 = .ok (.ireturn, 1) := by decide +kernel
theorem dX5_answer_145 : decode cX5_answer 145 = .ok (.aload_n 0, 1) := by decide +kernel
theorem dX5_answer_146 : decode cX5_answer 146 = .ok (.getfield 46, 3) := by decide +kernel
theorem dX5_answer_149 : decode cX5_answer 149 = .ok (.ireturn, 1) := by decide +kernel
theorem dX5_answer_150 : decode cX5_answer 150 = .ok (.aload_n 0, 1) := by decide +kernel
theorem dX5_answer_151 : decode cX5_answer 151 = .ok (.getfield 49, 3) := by decide +kernel
theorem dX5_answer_154 : decode cX5_answer 154 = .ok (.ireturn, 1) := by decide +kernel
theorem dX5_answer_155 : decode cX5_answer 155 = .ok (.aload_n 0, 1) := by decide +kernel
theorem dX5_answer_156 : decode cX5_answer 156 = .ok (.getfield 52, 3) := by decide +kernel
theorem dX5_answer_159 : decode cX5_answer 159 = .ok (.ireturn, 1) := by decide +kernel
theorem dX5_answer_160 : decode cX5_answer 160 = .ok (.aload_n 0, 1) := by decide +kernel
theorem dX5_answer_161 : decode cX5_answer 161 = .ok (.getfield 55, 3) := by decide +kernel
theorem dX5_answer_164 : decode cX5_answer 164 = .ok (.ireturn, 1) := by decide +kernel
theorem dX5_answer_165 : decode cX5_answer 165 = .ok (.aload_n 0, 1) := by decide +kernel
theorem dX5_answer_166 : decode cX5_answer 166 = .ok (.getfield 58, 3) := by decide +kernel
theorem dX5_answer_169 : decode cX5_answer 169 = .ok (.ireturn, 1) := by decide +kernel
theorem dX5_answer_170 : decode cX5_answer 170 = .ok (.aload_n 0, 1) := by decide +kernel
theorem dX5_answer_171 : decode cX5_answer 171 = .ok (.getfield 61, 3) := by decide +kernel
theorem dX5_answer_174 : decode cX5_answer 174 = .ok (.ireturn, 1) := by decide +kernel
theorem dX5_answer_175 : decode cX5_answer 175 = .ok (.iconst (-1), 1) := by decide +kernel
theorem dX5_answer_176 : decode cX5_answer 176 = .ok (.ireturn, 1) := by decide +kernel
theorem dX5_answerOf_0 : decode cX5_answerOf 0 = .ok (.aload_n 0, 1) := by decide +kernel
theorem dX5_answerOf_1 : decode cX5_answerOf 1 = .ok (.iload_n 1, 1) := by decide +kernel
theorem dX5_answerOf_2 : decode cX5_answerOf 2 = .ok (.invokevirtual 64, 3) := by decide +kernel
theorem dX5_answerOf_5 : decode cX5_answerOf 5 = .ok (.ifCond .ne 5, 3) := by decide +kernel
theorem dX5_answerOf_8 : decode cX5_answerOf 8 = .ok (.iconst (-1), 1) := by decide +kernel
theorem dX5_answerOf_9 : decode cX5_answerOf 9 = .ok (.ireturn, 1) := by decide +kernel
theorem dX5_answerOf_10 : decode cX5_answerOf 10 = .ok (.iload_n 2, 1) := by decide +kernel
theorem dX5_answerOf_11 : decode cX5_answerOf 11 = .ok (.bipush 10, 2) := by decide +kernel
theorem dX5_answerOf_13 : decode cX5_answerOf 13 = .ok (.if_icmp .lt 24, 3) := by decide +kernel
theorem dX5_answerOf_16 : decode cX5_answerOf 16 = .ok (.iload_n 2, 1) := by decide +kernel
theorem dX5_answerOf_17 : decode cX5_answerOf 17 = .ok (.bipush 10, 2) := by decide +kernel
theorem dX5_answerOf_19 : decode cX5_answerOf 19 = .ok (.aload_n 0, 1) := by decide +kernel
theorem dX5_answerOf_20 : decode cX5_answerOf 20 = .ok (.getfield 46, 3) := by decide +kernel
theorem dX5_answerOf_23 : decode cX5_answerOf 23 = .ok (.iadd, 1) := by decide +kernel
theorem dX5_answerOf_24 : decode cX5_answerOf 24 = .ok (.if_icmp .ge 13, 3) := by decide +kernel
theorem dX5_answerOf_27 : decode cX5_answerOf 27 = .ok (.aload_n 0, 1) := by decide +kernel
theorem dX5_answerOf_28 : decode cX5_answerOf 28 = .ok (.iload_n 1, 1) := by decide +kernel
theorem dX5_answerOf_29 : decode cX5_answerOf 29 = .ok (.iload_n 2, 1) := by decide +kernel
theorem dX5_answerOf_30 : decode cX5_answerOf 30 = .ok (.bipush 10, 2) := by decide +kernel
theorem dX5_answerOf_32 : decode cX5_answerOf 32 = .ok (.isub, 1) := by decide +kernel
theorem dX5_answerOf_33 : decode cX5_answerOf 33 = .ok (.invokevirtual 83, 3) := by decide +kernel
theorem dX5_answerOf_36 : decode cX5_answerOf 36 = .ok (.ireturn, 1) := by decide +kernel
theorem dX5_answerOf_37 : decode cX5_answerOf 37 = .ok (.iload_n 2, 1) := by decide +kernel
theorem dX5_answerOf_38 : decode cX5_answerOf 38 = .ok (.tableswitch 69 0 4 #[34, 41, 48, 55, 62], 34) := by decide +kernel
theorem dX5_answerOf_72 : decode cX5_answerOf 72 = .ok (.aload_n 0, 1) := by decide +kernel
theorem dX5_answerOf_73 : decode cX5_answerOf 73 = .ok (.getfield 18, 3) := by decide +kernel
theorem dX5_answerOf_76 : decode cX5_answerOf 76 = .ok (.iload_n 1, 1) := by decide +kernel
theorem dX5_answerOf_77 : decode cX5_answerOf 77 = .ok (.iaload, 1) := by decide +kernel
theorem dX5_answerOf_78 : decode cX5_answerOf 78 = .ok (.ireturn, 1) := by decide +kernel
theorem dX5_answerOf_79 : decode cX5_answerOf 79 = .ok (.aload_n 0, 1) := by decide +kernel
theorem dX5_answerOf_80 : decode cX5_answerOf 80 = .ok (.getfield 21, 3) := by decide +kernel
theorem dX5_answerOf_83 : decode cX5_answerOf 83 = .ok (.iload_n 1, 1) := by decide +kernel
theorem dX5_answerOf_84 : decode cX5_answerOf 84 = .ok (.iaload, 1) := by decide +kernel
theorem dX5_answerOf_85 : decode cX5_answerOf 85 = .ok (.ireturn, 1) := by decide +kernel
theorem dX5_answerOf_86 : decode cX5_answerOf 86 = .ok (.aload_n 0, 1) := by decide +kernel
theorem dX5_answerOf_87 : decode cX5_answerOf 87 = .ok (.getfield 24, 3) := by decide +kernel
theorem dX5_answerOf_90 : decode cX5_answerOf 90 = .ok (.iload_n 1, 1) := by decide +kernel
theorem dX5_answerOf_91 : decode cX5_answerOf 91 = .ok (.iaload, 1) := by decide +kernel
theorem dX5_answerOf_92 : decode cX5_answerOf 92 = .ok (.ireturn, 1) := by decide +kernel
theorem dX5_answerOf_93 : decode cX5_answerOf 93 = .ok (.aload_n 0, 1) := by decide +kernel
theorem dX5_answerOf_94 : decode cX5_answerOf 94 = .ok (.getfield 27, 3) := by decide +kernel
theorem dX5_answerOf_97 : decode cX5_answerOf 97 = .ok (.iload_n 1, 1) := by decide +kernel
theorem dX5_answerOf_98 : decode cX5_answerOf 98 = .ok (.iaload, 1) := by decide +kernel
theorem dX5_answerOf_99 : decode cX5_answerOf 99 = .ok (.ireturn, 1) := by decide +kernel
theorem dX5_answerOf_100 : decode cX5_answerOf 100 = .ok (.aload_n 0, 1) := by decide +kernel
theorem dX5_answerOf_101 : decode cX5_answerOf 101 = .ok (.getfield 30, 3) := by decide +kernel
theorem dX5_answerOf_104 : decode cX5_answerOf 104 = .ok (.iload_n 1, 1) := by decide +kernel
theorem dX5_answerOf_105 : decode cX5_answerOf 105 = .ok (.iaload, 1) := by decide +kernel
theorem dX5_answerOf_106 : decode cX5_answerOf 106 = .ok (.ireturn, 1) := by decide +kernel
theorem dX5_answerOf_107 : decode cX5_answerOf 107 = .ok (.iconst (-1), 1) := by decide +kernel
theorem dX5_answerOf_108 : decode cX5_answerOf 108 = .ok (.ireturn, 1) := by decide +kernel
theorem dX5_copy_0 : decode cX5_copy 0 = .ok (.aload_n 0, 1) := by decide +kernel
theorem dX5_copy_1 : decode cX5_copy 1 = .ok (.aload_n 1, 1) := by decide +kernel
theorem dX5_copy_2 : decode cX5_copy 2 = .ok (.getfield 42, 3) := by decide +kernel
theorem dX5_copy_5 : decode cX5_copy 5 = .ok (.putfield 42, 3) := by decide +kernel
theorem dX5_copy_8 : decode cX5_copy 8 = .ok (.aload_n 1, 1) := by decide +kernel
theorem dX5_copy_9 : decode cX5_copy 9 = .ok (.getfield 9, 3) := by decide +kernel
theorem dX5_copy_12 : decode cX5_copy 12 = .ok (.iconst 0, 1) := by decide +kernel
theorem dX5_copy_13 : decode cX5_copy 13 = .ok (.aload_n 0, 1) := by decide +kernel
theorem dX5_copy_14 : decode cX5_copy 14 = .ok (.getfield 9, 3) := by decide +kernel
theorem dX5_copy_17 : decode cX5_copy 17 = .ok (.iconst 0, 1) := by decide +kernel
theorem dX5_copy_18 : decode cX5_copy 18 = .ok (.iconst 5, 1) := by decide +kernel
theorem dX5_copy_19 : decode cX5_copy 19 = .ok (.invokestatic 86, 3) := by decide +kernel
theorem dX5_copy_22 : decode cX5_copy 22 = .ok (.aload_n 1, 1) := by decide +kernel
theorem dX5_copy_23 : decode cX5_copy 23 = .ok (.getfield 15, 3) := by decide +kernel
theorem dX5_copy_26 : decode cX5_copy 26 = .ok (.iconst 0, 1) := by decide +kernel
theorem dX5_copy_27 : decode cX5_copy 27 = .ok (.aload_n 0, 1) := by decide +kernel
theorem dX5_copy_28 : decode cX5_copy 28 = .ok (.getfield 15, 3) := by decide +kernel
theorem dX5_copy_31 : decode cX5_copy 31 = .ok (.iconst 0, 1) := by decide +kernel
theorem dX5_copy_32 : decode cX5_copy 32 = .ok (.iconst 5, 1) := by decide +kernel
theorem dX5_copy_33 : decode cX5_copy 33 = .ok (.invokestatic 86, 3) := by decide +kernel
theorem dX5_copy_36 : decode cX5_copy 36 = .ok (.aload_n 0, 1) := by decide +kernel
theorem dX5_copy_37 : decode cX5_copy 37 = .ok (.aload_n 1, 1) := by decide +kernel
theorem dX5_copy_38 : decode cX5_copy 38 = .ok (.getfield 46, 3) := by decide +kernel
theorem dX5_copy_41 : decode cX5_copy 41 = .ok (.putfield 46, 3) := by decide +kernel
theorem dX5_copy_44 : decode cX5_copy 44 = .ok (.aload_n 1, 1) := by decide +kernel
theorem dX5_copy_45 : decode cX5_copy 45 = .ok (.getfield 18, 3) := by decide +kernel
theorem dX5_copy_48 : decode cX5_copy 48 = .ok (.iconst 0, 1) := by decide +kernel
theorem dX5_copy_49 : decode cX5_copy 49 = .ok (.aload_n 0, 1) := by decide +kernel
theorem dX5_copy_50 : decode cX5_copy 50 = .ok (.getfield 18, 3) := by decide +kernel
theorem dX5_copy_53 : decode cX5_copy 53 = .ok (.iconst 0, 1) := by decide +kernel
theorem dX5_copy_54 : decode cX5_copy 54 = .ok (.bipush 8, 2) := by decide +kernel
theorem dX5_copy_56 : decode cX5_copy 56 = .ok (.invokestatic 86, 3) := by decide +kernel
theorem dX5_copy_59 : decode cX5_copy 59 = .ok (.aload_n 1, 1) := by decide +kernel
theorem dX5_copy_60 : decode cX5_copy 60 = .ok (.getfield 21, 3) := by decide +kernel
theorem dX5_copy_63 : decode cX5_copy 63 = .ok (.iconst 0, 1) := by decide +kernel
theorem dX5_copy_64 : decode cX5_copy 64 = .ok (.aload_n 0, 1) := by decide +kernel
theorem dX5_copy_65 : decode cX5_copy 65 = .ok (.getfield 21, 3) := by decide +kernel
theorem dX5_copy_68 : decode cX5_copy 68 = .ok (.iconst 0, 1) := by decide +kernel
theorem dX5_copy_69 : decode cX5_copy 69 = .ok (.bipush 8, 2) := by decide +kernel
theorem dX5_copy_71 : decode cX5_copy 71 = .ok (.invokestatic 86, 3) := by decide +kernel
theorem dX5_copy_74 : decode cX5_copy 74 = .ok (.aload_n 1, 1) := by decide +kernel
theorem dX5_copy_75 : decode cX5_copy 75 = .ok (.getfield 24, 3) := by decide +kernel
theorem dX5_copy_78 : decode cX5_copy 78 = .ok (.iconst 0, 1) := by decide +kernel
theorem dX5_copy_79 : decode cX5_copy 79 = .ok (.aload_n 0, 1) := by decide +kernel
theorem dX5_copy_80 : decode cX5_copy 80 = .ok (.getfield 24, 3) := by decide +kernel
theorem dX5_copy_83 : decode cX5_copy 83 = .ok (.iconst 0, 1) := by decide +kernel
theorem dX5_copy_84 : decode cX5_copy 84 = .ok (.bipush 8, 2) := by decide +kernel
theorem dX5_copy_86 : decode cX5_copy 86 = .ok (.invokestatic 86, 3) := by decide +kernel
theorem dX5_copy_89 : decode cX5_copy 89 = .ok (.aload_n 1, 1) := by decide +kernel
theorem dX5_copy_90 : decode cX5_copy 90 = .ok (.getfield 27, 3) := by decide +kernel
theorem dX5_copy_93 : decode cX5_copy 93 = .ok (.iconst 0, 1) := by decide +kernel
theorem dX5_copy_94 : decode cX5_copy 94 = .ok (.aload_n 0, 1) := by decide +kernel
theorem dX5_copy_95 : decode cX5_copy 95 = .ok (.getfield 27, 3) := by decide +kernel
theorem dX5_copy_98 : decode cX5_copy 98 = .ok (.iconst 0, 1) := by decide +kernel
theorem dX5_copy_99 : decode cX5_copy 99 = .ok (.bipush 8, 2) := by decide +kernel
theorem dX5_copy_101 : decode cX5_copy 101 = .ok (.invokestatic 86, 3) := by decide +kernel
theorem dX5_copy_104 : decode cX5_copy 104 = .ok (.aload_n 1, 1) := by decide +kernel
theorem dX5_copy_105 : decode cX5_copy 105 = .ok (.getfield 30, 3) := by decide +kernel
theorem dX5_copy_108 : decode cX5_copy 108 = .ok (.iconst 0, 1) := by decide +kernel
theorem dX5_copy_109 : decode cX5_copy 109 = .ok (.aload_n 0, 1) := by decide +kernel
theorem dX5_copy_110 : decode cX5_copy 110 = .ok (.getfield 30, 3) := by decide +kernel
theorem dX5_copy_113 : decode cX5_copy 113 = .ok (.iconst 0, 1) := by decide +kernel
theorem dX5_copy_114 : decode cX5_copy 114 = .ok (.bipush 8, 2) := by decide +kernel
theorem dX5_copy_116 : decode cX5_copy 116 = .ok (.invokestatic 86, 3) := by decide +kernel
theorem dX5_copy_119 : decode cX5_copy 119 = .ok (.aload_n 1, 1) := by decide +kernel
theorem dX5_copy_120 : decode cX5_copy 120 = .ok (.getfield 33, 3) := by decide +kernel
theorem dX5_copy_123 : decode cX5_copy 123 = .ok (.iconst 0, 1) := by decide +kernel
theorem dX5_copy_124 : decode cX5_copy 124 = .ok (.aload_n 0, 1) := by decide +kernel
theorem dX5_copy_125 : decode cX5_copy 125 = .ok (.getfield 33, 3) := by decide +kernel
theorem dX5_copy_128 : decode cX5_copy 128 = .ok (.iconst 0, 1) := by decide +kernel
theorem dX5_copy_129 : decode cX5_copy 129 = .ok (.bipush 64, 2) := by decide +kernel
theorem dX5_copy_131 : decode cX5_copy 131 = .ok (.invokestatic 86, 3) := by decide +kernel
theorem dX5_copy_134 : decode cX5_copy 134 = .ok (.aload_n 1, 1) := by decide +kernel
theorem dX5_copy_135 : decode cX5_copy 135 = .ok (.getfield 36, 3) := by decide +kernel
theorem dX5_copy_138 : decode cX5_copy 138 = .ok (.iconst 0, 1) := by decide +kernel
theorem dX5_copy_139 : decode cX5_copy 139 = .ok (.aload_n 0, 1) := by decide +kernel
theorem dX5_copy_140 : decode cX5_copy 140 = .ok (.getfield 36, 3) := by decide +kernel
theorem dX5_copy_143 : decode cX5_copy 143 = .ok (.iconst 0, 1) := by decide +kernel
theorem dX5_copy_144 : decode cX5_copy 144 = .ok (.bipush 8, 2) := by decide +kernel
theorem dX5_copy_146 : decode cX5_copy 146 = .ok (.invokestatic 86, 3) := by decide +kernel
theorem dX5_copy_149 : decode cX5_copy 149 = .ok (.aload_n 1, 1) := by decide +kernel
theorem dX5_copy_150 : decode cX5_copy 150 = .ok (.getfield 39, 3) := by decide +kernel
theorem dX5_copy_153 : decode cX5_copy 153 = .ok (.iconst 0, 1) := by decide +kernel
theorem dX5_copy_154 : decode cX5_copy 154 = .ok (.aload_n 0, 1) := by decide +kernel
theorem dX5_copy_155 : decode cX5_copy 155 = .ok (.getfield 39, 3) := by decide +kernel
theorem dX5_copy_158 : decode cX5_copy 158 = .ok (.iconst 0, 1) := by decide +kernel
theorem dX5_copy_159 : decode cX5_copy 159 = .ok (.iconst 3, 1) := by decide +kernel
theorem dX5_copy_160 : decode cX5_copy 160 = .ok (.invokestatic 86, 3) := by decide +kernel
theorem dX5_copy_163 : decode cX5_copy 163 = .ok (.aload_n 0, 1) := by decide +kernel
theorem dX5_copy_164 : decode cX5_copy 164 = .ok (.aload_n 1, 1) := by decide +kernel
theorem dX5_copy_165 : decode cX5_copy 165 = .ok (.getfield 49, 3) := by decide +kernel
theorem dX5_copy_168 : decode cX5_copy 168 = .ok (.putfield 49, 3) := by decide +kernel
theorem dX5_copy_171 : decode cX5_copy 171 = .ok (.aload_n 0, 1) := by decide +kernel
theorem dX5_copy_172 : decode cX5_copy 172 = .ok (.aload_n 1, 1) := by decide +kernel
theorem dX5_copy_173 : decode cX5_copy 173 = .ok (.getfield 52, 3) := by decide +kernel
theorem dX5_copy_176 : decode cX5_copy 176 = .ok (.putfield 52, 3) := by decide +kernel
theorem dX5_copy_179 : decode cX5_copy 179 = .ok (.aload_n 0, 1) := by decide +kernel
theorem dX5_copy_180 : decode cX5_copy 180 = .ok (.aload_n 1, 1) := by decide +kernel
theorem dX5_copy_181 : decode cX5_copy 181 = .ok (.getfield 55, 3) := by decide +kernel
theorem dX5_copy_184 : decode cX5_copy 184 = .ok (.putfield 55, 3) := by decide +kernel
theorem dX5_copy_187 : decode cX5_copy 187 = .ok (.aload_n 0, 1) := by decide +kernel
theorem dX5_copy_188 : decode cX5_copy 188 = .ok (.aload_n 1, 1) := by decide +kernel
theorem dX5_copy_189 : decode cX5_copy 189 = .ok (.getfield 58, 3) := by decide +kernel
theorem dX5_copy_192 : decode cX5_copy 192 = .ok (.putfield 58, 3) := by decide +kernel
theorem dX5_copy_195 : decode cX5_copy 195 = .ok (.aload_n 0, 1) := by decide +kernel
theorem dX5_copy_196 : decode cX5_copy 196 = .ok (.aload_n 1, 1) := by decide +kernel
theorem dX5_copy_197 : decode cX5_copy 197 = .ok (.getfield 61, 3) := by decide +kernel
theorem dX5_copy_200 : decode cX5_copy 200 = .ok (.putfield 61, 3) := by decide +kernel
theorem dX5_copy_203 : decode cX5_copy 203 = .ok (.return_, 1) := by decide +kernel
theorem dX6_init_0 : decode cX6_init 0 = .ok (.aload_n 0, 1) := by decide +kernel
theorem dX6_init_1 : decode cX6_init 1 = .ok (.invokespecial 3, 3) := by decide +kernel
theorem dX6_init_4 : decode cX6_init 4 = .ok (.aload_n 0, 1) := by decide +kernel
theorem dX6_init_5 : decode cX6_init 5 = .ok (.iconst 5, 1) := by decide +kernel
theorem dX6_init_6 : decode cX6_init 6 = .ok (.newarray .int, 2) := by decide +kernel
theorem dX6_init_8 : decode cX6_init 8 = .ok (.putfield 9, 3) := by decide +kernel
theorem dX6_init_11 : decode cX6_init 11 = .ok (.aload_n 0, 1) := by decide +kernel
theorem dX6_init_12 : decode cX6_init 12 = .ok (.bipush 24, 2) := by decide +kernel
theorem dX6_init_14 : decode cX6_init 14 = .ok (.newarray .int, 2) := by decide +kernel
theorem dX6_init_16 : decode cX6_init 16 = .ok (.putfield 15, 3) := by decide +kernel
theorem dX6_init_19 : decode cX6_init 19 = .ok (.aload_n 0, 1) := by decide +kernel
theorem dX6_init_20 : decode cX6_init 20 = .ok (.bipush 8, 2) := by decide +kernel
theorem dX6_init_22 : decode cX6_init 22 = .ok (.newarray .int, 2) := by decide +kernel
theorem dX6_init_24 : decode cX6_init 24 = .ok (.putfield 18, 3) := by decide +kernel
theorem dX6_init_27 : decode cX6_init 27 = .ok (.return_, 1) := by decide +kernel
theorem dX6_runs_0 : decode cX6_runs 0 = .ok (.aload_n 0, 1) := by decide +kernel
theorem dX6_runs_1 : decode cX6_runs 1 = .ok (.aload_n 1, 1) := by decide +kernel
theorem dX6_runs_2 : decode cX6_runs 2 = .ok (.invokevirtual 21, 3) := by decide +kernel
theorem dX6_runs_5 : decode cX6_runs 5 = .ok (.iconst 0, 1) := by decide +kernel
theorem dX6_runs_6 : decode cX6_runs 6 = .ok (.istore 4, 2) := by decide +kernel
theorem dX6_runs_8 : decode cX6_runs 8 = .ok (.iload 4, 2) := by decide +kernel
theorem dX6_runs_10 : decode cX6_runs 10 = .ok (.iload_n 3, 1) := by decide +kernel
theorem dX6_runs_11 : decode cX6_runs 11 = .ok (.if_icmp .ge 50, 3) := by decide +kernel
theorem dX6_runs_14 : decode cX6_runs 14 = .ok (.iload 4, 2) := by decide +kernel
theorem dX6_runs_16 : decode cX6_runs 16 = .ok (.aload_n 2, 1) := by decide +kernel
theorem dX6_runs_17 : decode cX6_runs 17 = .ok (.getfield 25, 3) := by decide +kernel
theorem dX6_runs_20 : decode cX6_runs 20 = .ok (.if_icmp .ge 41, 3) := by decide +kernel
theorem dX6_runs_23 : decode cX6_runs 23 = .ok (.aload_n 0, 1) := by decide +kernel
theorem dX6_runs_24 : decode cX6_runs 24 = .ok (.aload_n 1, 1) := by decide +kernel
theorem dX6_runs_25 : decode cX6_runs 25 = .ok (.aload_n 2, 1) := by decide +kernel
theorem dX6_runs_26 : decode cX6_runs 26 = .ok (.getfield 31, 3) := by decide +kernel
theorem dX6_runs_29 : decode cX6_runs 29 = .ok (.iload 4, 2) := by decide +kernel
theorem dX6_runs_31 : decode cX6_runs 31 = .ok (.iaload, 1) := by decide +kernel
theorem dX6_runs_32 : decode cX6_runs 32 = .ok (.bipush 12, 2) := by decide +kernel
theorem dX6_runs_34 : decode cX6_runs 34 = .ok (.iadd, 1) := by decide +kernel
theorem dX6_runs_35 : decode cX6_runs 35 = .ok (.aload_n 2, 1) := by decide +kernel
theorem dX6_runs_36 : decode cX6_runs 36 = .ok (.getfield 34, 3) := by decide +kernel
theorem dX6_runs_39 : decode cX6_runs 39 = .ok (.iload 4, 2) := by decide +kernel
theorem dX6_runs_41 : decode cX6_runs 41 = .ok (.iaload, 1) := by decide +kernel
theorem dX6_runs_42 : decode cX6_runs 42 = .ok (.aload_n 2, 1) := by decide +kernel
theorem dX6_runs_43 : decode cX6_runs 43 = .ok (.getfield 37, 3) := by decide +kernel
theorem dX6_runs_46 : decode cX6_runs 46 = .ok (.iload 4, 2) := by decide +kernel
theorem dX6_runs_48 : decode cX6_runs 48 = .ok (.iaload, 1) := by decide +kernel
theorem dX6_runs_49 : decode cX6_runs 49 = .ok (.invokevirtual 40, 3) := by decide +kernel
theorem dX6_runs_52 : decode cX6_runs 52 = .ok (.ifCond .eq 9, 3) := by decide +kernel
theorem dX6_runs_55 : decode cX6_runs 55 = .ok (.iinc 4 1, 3) := by decide +kernel
theorem dX6_runs_58 : decode cX6_runs 58 = .ok (.goto (-50), 3) := by decide +kernel
theorem dX6_runs_61 : decode cX6_runs 61 = .ok (.iload 4, 2) := by decide +kernel
theorem dX6_runs_63 : decode cX6_runs 63 = .ok (.ireturn, 1) := by decide +kernel
theorem dX6_begin_0 : decode cX6_begin 0 = .ok (.aload_n 0, 1) := by decide +kernel
theorem dX6_begin_1 : decode cX6_begin 1 = .ok (.iconst (-1), 1) := by decide +kernel
theorem dX6_begin_2 : decode cX6_begin 2 = .ok (.putfield 44, 3) := by decide +kernel
theorem dX6_begin_5 : decode cX6_begin 5 = .ok (.aload_n 0, 1) := by decide +kernel
theorem dX6_begin_6 : decode cX6_begin 6 = .ok (.iconst 0, 1) := by decide +kernel
theorem dX6_begin_7 : decode cX6_begin 7 = .ok (.putfield 47, 3) := by decide +kernel
theorem dX6_begin_10 : decode cX6_begin 10 = .ok (.aload_n 0, 1) := by decide +kernel
theorem dX6_begin_11 : decode cX6_begin 11 = .ok (.iconst (-1), 1) := by decide +kernel
theorem dX6_begin_12 : decode cX6_begin 12 = .ok (.putfield 50, 3) := by decide +kernel
theorem dX6_begin_15 : decode cX6_begin 15 = .ok (.aload_n 0, 1) := by decide +kernel
theorem dX6_begin_16 : decode cX6_begin 16 = .ok (.iconst 0, 1) := by decide +kernel
theorem dX6_begin_17 : decode cX6_begin 17 = .ok (.putfield 53, 3) := by decide +kernel
theorem dX6_begin_20 : decode cX6_begin 20 = .ok (.aload_n 0, 1) := by decide +kernel
theorem dX6_begin_21 : decode cX6_begin 21 = .ok (.iconst (-1), 1) := by decide +kernel
theorem dX6_begin_22 : decode cX6_begin 22 = .ok (.putfield 56, 3) := by decide +kernel
theorem dX6_begin_25 : decode cX6_begin 25 = .ok (.aload_n 0, 1) := by decide +kernel
theorem dX6_begin_26 : decode cX6_begin 26 = .ok (.iconst 0, 1) := by decide +kernel
theorem dX6_begin_27 : decode cX6_begin 27 = .ok (.putfield 59, 3) := by decide +kernel
theorem dX6_begin_30 : decode cX6_begin 30 = .ok (.aload_n 0, 1) := by decide +kernel
theorem dX6_begin_31 : decode cX6_begin 31 = .ok (.iconst 0, 1) := by decide +kernel
theorem dX6_begin_32 : decode cX6_begin 32 = .ok (.putfield 63, 3) := by decide +kernel
theorem dX6_begin_35 : decode cX6_begin 35 = .ok (.aload_n 0, 1) := by decide +kernel
theorem dX6_begin_36 : decode cX6_begin 36 = .ok (.iconst (-1), 1) := by decide +kernel
theorem dX6_begin_37 : decode cX6_begin 37 = .ok (.putfield 66, 3) := by decide +kernel
theorem dX6_begin_40 : decode cX6_begin 40 = .ok (.aload_n 0, 1) := by decide +kernel
theorem dX6_begin_41 : decode cX6_begin 41 = .ok (.iconst (-1), 1) := by decide +kernel
theorem dX6_begin_42 : decode cX6_begin 42 = .ok (.putfield 69, 3) := by decide +kernel
theorem dX6_begin_45 : decode cX6_begin 45 = .ok (.aload_n 0, 1) := by decide +kernel
theorem dX6_begin_46 : decode cX6_begin 46 = .ok (.iconst 0, 1) := by decide +kernel
theorem dX6_begin_47 : decode cX6_begin 47 = .ok (.putfield 72, 3) := by decide +kernel
theorem dX6_begin_50 : decode cX6_begin 50 = .ok (.aload_n 0, 1) := by decide +kernel
theorem dX6_begin_51 : decode cX6_begin 51 = .ok (.iconst 0, 1) := by decide +kernel
theorem dX6_begin_52 : decode cX6_begin 52 = .ok (.putfield 75, 3) := by decide +kernel
theorem dX6_begin_55 : decode cX6_begin 55 = .ok (.aload_n 1, 1) := by decide +kernel
theorem dX6_begin_56 : decode cX6_begin 56 = .ok (.getfield 78, 3) := by decide +kernel
theorem dX6_begin_59 : decode cX6_begin 59 = .ok (.iconst 0, 1) := by decide +kernel
theorem dX6_begin_60 : decode cX6_begin 60 = .ok (.aload_n 0, 1) := by decide +kernel
theorem dX6_begin_61 : decode cX6_begin 61 = .ok (.getfield 9, 3) := by decide +kernel
theorem dX6_begin_64 : decode cX6_begin 64 = .ok (.iconst 0, 1) := by decide +kernel
theorem dX6_begin_65 : decode cX6_begin 65 = .ok (.iconst 5, 1) := by decide +kernel
theorem dX6_begin_66 : decode cX6_begin 66 = .ok (.invokestatic 83, 3) := by decide +kernel
theorem dX6_begin_69 : decode cX6_begin 69 = .ok (.iconst 0, 1) := by decide +kernel
theorem dX6_begin_70 : decode cX6_begin 70 = .ok (.istore_n 2, 1) := by decide +kernel
theorem dX6_begin_71 : decode cX6_begin 71 = .ok (.iload_n 2, 1) := by decide +kernel
theorem dX6_begin_72 : decode cX6_begin 72 = .ok (.bipush 8, 2) := by decide +kernel
theorem dX6_begin_74 : decode cX6_begin 74 = .ok (.if_icmp .ge 16, 3) := by decide +kernel
theorem dX6_begin_77 : decode cX6_begin 77 = .ok (.aload_n 0, 1) := by decide +kernel
theorem dX6_begin_78 : decode cX6_begin 78 = .ok (.getfield 18, 3) := by decide +kernel
theorem dX6_begin_81 : decode cX6_begin 81 = .ok (.iload_n 2, 1) := by decide +kernel
theorem dX6_begin_82 : decode cX6_begin 82 = .ok (.iconst 0, 1) := by decide +kernel
theorem dX6_begin_83 : decode cX6_begin 83 = .ok (.iastore, 1) := by decide +kernel
theorem dX6_begin_84 : decode cX6_begin 84 = .ok (.iinc 2 1, 3) := by decide +kernel
theorem dX6_begin_87 : decode cX6_begin 87 = .ok (.goto (-16), 3) := by decide +kernel
theorem dX6_begin_90 : decode cX6_begin 90 = .ok (.iconst 0, 1) := by decide +kernel
theorem dX6_begin_91 : decode cX6_begin 91 = .ok (.istore_n 2, 1) := by decide +kernel
theorem dX6_begin_92 : decode cX6_begin 92 = .ok (.iload_n 2, 1) := by decide +kernel
theorem dX6_begin_93 : decode cX6_begin 93 = .ok (.bipush 24, 2) := by decide +kernel
theorem dX6_begin_95 : decode cX6_begin 95 = .ok (.if_icmp .ge 16, 3) := by decide +kernel
theorem dX6_begin_98 : decode cX6_begin 98 = .ok (.aload_n 0, 1) := by decide +kernel
theorem dX6_begin_99 : decode cX6_begin 99 = .ok (.getfield 15, 3) := by decide +kernel
theorem dX6_begin_102 : decode cX6_begin 102 = .ok (.iload_n 2, 1) := by decide +kernel
theorem dX6_begin_103 : decode cX6_begin 103 = .ok (.iconst 0, 1) := by decide +kernel
theorem dX6_begin_104 : decode cX6_begin 104 = .ok (.iastore, 1) := by decide +kernel
theorem dX6_begin_105 : decode cX6_begin 105 = .ok (.iinc 2 1, 3) := by decide +kernel
theorem dX6_begin_108 : decode cX6_begin 108 = .ok (.goto (-16), 3) := by decide +kernel
theorem dX6_begin_111 : decode cX6_begin 111 = .ok (.return_, 1) := by decide +kernel
theorem dX6_canDo_0 : decode cX6_canDo 0 = .ok (.aload_n 0, 1) := by decide +kernel
theorem dX6_canDo_1 : decode cX6_canDo 1 = .ok (.getfield 56, 3) := by decide +kernel
theorem dX6_canDo_4 : decode cX6_canDo 4 = .ok (.iconst (-1), 1) := by decide +kernel
theorem dX6_canDo_5 : decode cX6_canDo 5 = .ok (.if_icmp .ne 10, 3) := by decide +kernel
theorem dX6_canDo_8 : decode cX6_canDo 8 = .ok (.aload_n 0, 1) := by decide +kernel
theorem dX6_canDo_9 : decode cX6_canDo 9 = .ok (.getfield 59, 3) := by decide +kernel
theorem dX6_canDo_12 : decode cX6_canDo 12 = .ok (.ifCond .eq 5, 3) := by decide +kernel
theorem dX6_canDo_15 : decode cX6_canDo 15 = .ok (.iconst 0, 1) := by decide +kernel
theorem dX6_canDo_16 : decode cX6_canDo 16 = .ok (.ireturn, 1) := by decide +kernel
theorem dX6_canDo_17 : decode cX6_canDo 17 = .ok (.iload_n 2, 1) := by decide +kernel
theorem dX6_canDo_18 : decode cX6_canDo 18 = .ok (.tableswitch 69 12 16 #[34, 41, 47, 56, 62], 34) := by decide +kernel
theorem dX6_canDo_52 : decode cX6_canDo 52 = .ok (.aload_n 0, 1) := by decide +kernel
theorem dX6_canDo_53 : decode cX6_canDo 53 = .ok (.aload_n 1, 1) := by decide +kernel
theorem dX6_canDo_54 : decode cX6_canDo 54 = .ok (.iload_n 3, 1) := by decide +kernel
theorem dX6_canDo_55 : decode cX6_canDo 55 = .ok (.invokevirtual 89, 3) := by decide +kernel
theorem dX6_canDo_58 : decode cX6_canDo 58 = .ok (.ireturn, 1) := by decide +kernel
theorem dX6_canDo_59 : decode cX6_canDo 59 = .ok (.aload_n 0, 1) := by decide +kernel
theorem dX6_canDo_60 : decode cX6_canDo 60 = .ok (.iload_n 3, 1) := by decide +kernel
theorem dX6_canDo_61 : decode cX6_canDo 61 = .ok (.invokevirtual 93, 3) := by decide +kernel
theorem dX6_canDo_64 : decode cX6_canDo 64 = .ok (.ireturn, 1) := by decide +kernel
theorem dX6_canDo_65 : decode cX6_canDo 65 = .ok (.aload_n 0, 1) := by decide +kernel
theorem dX6_canDo_66 : decode cX6_canDo 66 = .ok (.aload_n 1, 1) := by decide +kernel
theorem dX6_canDo_67 : decode cX6_canDo 67 = .ok (.iload_n 3, 1) := by decide +kernel
theorem dX6_canDo_68 : decode cX6_canDo 68 = .ok (.iload 4, 2) := by decide +kernel
theorem dX6_canDo_70 : decode cX6_canDo 70 = .ok (.invokevirtual 97, 3) := by decide +kernel
theorem dX6_canDo_73 : decode cX6_canDo 73 = .ok (.ireturn, 1) := by decide +kernel
theorem dX6_canDo_74 : decode cX6_canDo 74 = .ok (.aload_n 0, 1) := by decide +kernel
theorem dX6_canDo_75 : decode cX6_canDo 75 = .ok (.iload_n 3, 1) := by decide +kernel
theorem dX6_canDo_76 : decode cX6_canDo 76 = .ok (.invokevirtual 101, 3) := by decide +kernel
theorem dX6_canDo_79 : decode cX6_canDo 79 = .ok (.ireturn, 1) := by decide +kernel
theorem dX6_canDo_80 : decode cX6_canDo 80 = .ok (.aload_n 0, 1) := by decide +kernel
theorem dX6_canDo_81 : decode cX6_canDo 81 = .ok (.iload_n 3, 1) := by decide +kernel
theorem dX6_canDo_82 : decode cX6_canDo 82 = .ok (.ineg, 1) := by decide +kernel
theorem dX6_canDo_83 : decode cX6_canDo 83 = .ok (.invokevirtual 101, 3) := by decide +kernel
theorem dX6_canDo_86 : decode cX6_canDo 86 = .ok (.ireturn, 1) := by decide +kernel
theorem dX6_canDo_87 : decode cX6_canDo 87 = .ok (.aload_n 0, 1) := by decide +kernel
theorem dX6_canDo_88 : decode cX6_canDo 88 = .ok (.aload_n 1, 1) := by decide +kernel
theorem dX6_canDo_89 : decode cX6_canDo 89 = .ok (.invokevirtual 104, 3) := by decide +kernel
theorem dX6_canDo_92 : decode cX6_canDo 92 = .ok (.ireturn, 1) := by decide +kernel
theorem dX6_goes_0 : decode cX6_goes 0 = .ok (.aload_n 1, 1) := by decide +kernel
theorem dX6_goes_1 : decode cX6_goes 1 = .ok (.iload_n 2, 1) := by decide +kernel
theorem dX6_goes_2 : decode cX6_goes 2 = .ok (.invokevirtual 108, 3) := by decide +kernel
theorem dX6_goes_5 : decode cX6_goes 5 = .ok (.ifCond .eq 34, 3) := by decide +kernel
theorem dX6_goes_8 : decode cX6_goes 8 = .ok (.aload_n 0, 1) := by decide +kernel
theorem dX6_goes_9 : decode cX6_goes 9 = .ok (.getfield 63, 3) := by decide +kernel
theorem dX6_goes_12 : decode cX6_goes 12 = .ok (.iload_n 2, 1) := by decide +kernel
theorem dX6_goes_13 : decode cX6_goes 13 = .ok (.iushr, 1) := by decide +kernel
theorem dX6_goes_14 : decode cX6_goes 14 = .ok (.iconst 1, 1) := by decide +kernel
theorem dX6_goes_15 : decode cX6_goes 15 = .ok (.iand, 1) := by decide +kernel
theorem dX6_goes_16 : decode cX6_goes 16 = .ok (.iconst 1, 1) := by decide +kernel
theorem dX6_goes_17 : decode cX6_goes 17 = .ok (.if_icmp .eq 22, 3) := by decide +kernel
theorem dX6_goes_20 : decode cX6_goes 20 = .ok (.aload_n 0, 1) := by decide +kernel
theorem dX6_goes_21 : decode cX6_goes 21 = .ok (.getfield 44, 3) := by decide +kernel
theorem dX6_goes_24 : decode cX6_goes 24 = .ok (.iconst (-1), 1) := by decide +kernel
theorem dX6_goes_25 : decode cX6_goes 25 = .ok (.if_icmp .eq 16, 3) := by decide +kernel
theorem dX6_goes_28 : decode cX6_goes 28 = .ok (.aload_n 0, 1) := by decide +kernel
theorem dX6_goes_29 : decode cX6_goes 29 = .ok (.getfield 47, 3) := by decide +kernel
theorem dX6_goes_32 : decode cX6_goes 32 = .ok (.aload_n 1, 1) := by decide +kernel
theorem dX6_goes_33 : decode cX6_goes 33 = .ok (.getfield 111, 3) := by decide +kernel
theorem dX6_goes_36 : decode cX6_goes 36 = .ok (.if_icmp .ge 5, 3) := by decide +kernel
theorem dX6_goes_39 : decode cX6_goes 39 = .ok (.iconst 0, 1) := by decide +kernel
theorem dX6_goes_40 : decode cX6_goes 40 = .ok (.ireturn, 1) := by decide +kernel
theorem dX6_goes_41 : decode cX6_goes 41 = .ok (.aload_n 0, 1) := by decide +kernel
theorem dX6_goes_42 : decode cX6_goes 42 = .ok (.iload_n 2, 1) := by decide +kernel
theorem dX6_goes_43 : decode cX6_goes 43 = .ok (.putfield 44, 3) := by decide +kernel
theorem dX6_goes_46 : decode cX6_goes 46 = .ok (.aload_n 0, 1) := by decide +kernel
theorem dX6_goes_47 : decode cX6_goes 47 = .ok (.iconst 0, 1) := by decide +kernel
theorem dX6_goes_48 : decode cX6_goes 48 = .ok (.putfield 47, 3) := by decide +kernel
theorem dX6_goes_51 : decode cX6_goes 51 = .ok (.aload_n 0, 1) := by decide +kernel
theorem dX6_goes_52 : decode cX6_goes 52 = .ok (.iconst (-1), 1) := by decide +kernel
theorem dX6_goes_53 : decode cX6_goes 53 = .ok (.putfield 50, 3) := by decide +kernel
theorem dX6_goes_56 : decode cX6_goes 56 = .ok (.aload_n 0, 1) := by decide +kernel
theorem dX6_goes_57 : decode cX6_goes 57 = .ok (.dup, 1) := by decide +kernel
theorem dX6_goes_58 : decode cX6_goes 58 = .ok (.getfield 63, 3) := by decide +kernel
theorem dX6_goes_61 : decode cX6_goes 61 = .ok (.iconst 1, 1) := by decide +kernel
theorem dX6_goes_62 : decode cX6_goes 62 = .ok (.iload_n 2, 1) := by decide +kernel
theorem dX6_goes_63 : decode cX6_goes 63 = .ok (.ishl, 1) := by decide +kernel
theorem dX6_goes_64 : decode cX6_goes 64 = .ok (.ior, 1) := by decide +kernel
theorem dX6_goes_65 : decode cX6_goes 65 = .ok (.putfield 63, 3) := by decide +kernel
theorem dX6_goes_68 : decode cX6_goes 68 = .ok (.iconst 1, 1) := by decide +kernel
theorem dX6_goes_69 : decode cX6_goes 69 = .ok (.ireturn, 1) := by decide +kernel
theorem dX6_faces_0 : decode cX6_faces 0 = .ok (.aload_n 0, 1) := by decide +kernel
theorem dX6_faces_1 : decode cX6_faces 1 = .ok (.getfield 44, 3) := by decide +kernel
theorem dX6_faces_4 : decode cX6_faces 4 = .ok (.iconst (-1), 1) := by decide +kernel
theorem dX6_faces_5 : decode cX6_faces 5 = .ok (.if_icmp .eq 10, 3) := by decide +kernel
theorem dX6_faces_8 : decode cX6_faces 8 = .ok (.aload_n 0, 1) := by decide +kernel
theorem dX6_faces_9 : decode cX6_faces 9 = .ok (.getfield 47, 3) := by decide +kernel
theorem dX6_faces_12 : decode cX6_faces 12 = .ok (.ifCond .le 5, 3) := by decide +kernel
theorem dX6_faces_15 : decode cX6_faces 15 = .ok (.iconst 0, 1) := by decide +kernel
theorem dX6_faces_16 : decode cX6_faces 16 = .ok (.ireturn, 1) := by decide +kernel
theorem dX6_faces_17 : decode cX6_faces 17 = .ok (.aload_n 0, 1) := by decide +kernel
theorem dX6_faces_18 : decode cX6_faces 18 = .ok (.iload_n 1, 1) := by decide +kernel
theorem dX6_faces_19 : decode cX6_faces 19 = .ok (.putfield 50, 3) := by decide +kernel
theorem dX6_faces_22 : decode cX6_faces 22 = .ok (.iconst 1, 1) := by decide +kernel
theorem dX6_faces_23 : decode cX6_faces 23 = .ok (.ireturn, 1) := by decide +kernel
theorem dX6_raises_0 : decode cX6_raises 0 = .ok (.aload_n 0, 1) := by decide +kernel
theorem dX6_raises_1 : decode cX6_raises 1 = .ok (.getfield 53, 3) := by decide +kernel
theorem dX6_raises_4 : decode cX6_raises 4 = .ok (.iload_n 1, 1) := by decide +kernel
theorem dX6_raises_5 : decode cX6_raises 5 = .ok (.iadd, 1) := by decide +kernel
theorem dX6_raises_6 : decode cX6_raises 6 = .ok (.ifCond .lt 14, 3) := by decide +kernel
theorem dX6_raises_9 : decode cX6_raises 9 = .ok (.aload_n 0, 1) := by decide +kernel
theorem dX6_raises_10 : decode cX6_raises 10 = .ok (.getfield 53, 3) := by decide +kernel
theorem dX6_raises_13 : decode cX6_raises 13 = .ok (.iload_n 1, 1) := by decide +kernel
theorem dX6_raises_14 : decode cX6_raises 14 = .ok (.iadd, 1) := by decide +kernel
theorem dX6_raises_15 : decode cX6_raises 15 = .ok (.bipush 9, 2) := by decide +kernel
theorem dX6_raises_17 : decode cX6_raises 17 = .ok (.if_icmp .le 5, 3) := by decide +kernel
theorem dX6_raises_20 : decode cX6_raises 20 = .ok (.iconst 0, 1) := by decide +kernel
theorem dX6_raises_21 : decode cX6_raises 21 = .ok (.ireturn, 1) := by decide +kernel
theorem dX6_raises_22 : decode cX6_raises 22 = .ok (.aload_n 0, 1) := by decide +kernel
theorem dX6_raises_23 : decode cX6_raises 23 = .ok (.dup, 1) := by decide +kernel
theorem dX6_raises_24 : decode cX6_raises 24 = .ok (.getfield 53, 3) := by decide +kernel
theorem dX6_raises_27 : decode cX6_raises 27 = .ok (.iload_n 1, 1) := by decide +kernel
theorem dX6_raises_28 : decode cX6_raises 28 = .ok (.iadd, 1) := by decide +kernel
theorem dX6_raises_29 : decode cX6_raises 29 = .ok (.putfield 53, 3) := by decide +kernel
theorem dX6_raises_32 : decode cX6_raises 32 = .ok (.iconst 1, 1) := by decide +kernel
theorem dX6_raises_33 : decode cX6_raises 33 = .ok (.ireturn, 1) := by decide +kernel
theorem dX6_isCutOpen_0 : decode cX6_isCutOpen 0 = .ok (.aload_n 0, 1) := by decide +kernel
theorem dX6_isCutOpen_1 : decode cX6_isCutOpen 1 = .ok (.getfield 63, 3) := by decide +kernel
theorem dX6_isCutOpen_4 : decode cX6_isCutOpen 4 = .ok (.iconst 1, 1) := by decide +kernel
theorem dX6_isCutOpen_5 : decode cX6_isCutOpen 5 = .ok (.aload_n 1, 1) := by decide +kernel
theorem dX6_isCutOpen_6 : decode cX6_isCutOpen 6 = .ok (.getfield 114, 3) := by decide +kernel
theorem dX6_isCutOpen_9 : decode cX6_isCutOpen 9 = .ok (.ishl, 1) := by decide +kernel
theorem dX6_isCutOpen_10 : decode cX6_isCutOpen 10 = .ok (.iconst 1, 1) := by decide +kernel
theorem dX6_isCutOpen_11 : decode cX6_isCutOpen 11 = .ok (.isub, 1) := by decide +kernel
theorem dX6_isCutOpen_12 : decode cX6_isCutOpen 12 = .ok (.if_icmp .eq 5, 3) := by decide +kernel
theorem dX6_isCutOpen_15 : decode cX6_isCutOpen 15 = .ok (.iconst 0, 1) := by decide +kernel
theorem dX6_isCutOpen_16 : decode cX6_isCutOpen 16 = .ok (.ireturn, 1) := by decide +kernel
theorem dX6_isCutOpen_17 : decode cX6_isCutOpen 17 = .ok (.aload_n 0, 1) := by decide +kernel
theorem dX6_isCutOpen_18 : decode cX6_isCutOpen 18 = .ok (.iconst 1, 1) := by decide +kernel
theorem dX6_isCutOpen_19 : decode cX6_isCutOpen 19 = .ok (.putfield 59, 3) := by decide +kernel
theorem dX6_isCutOpen_22 : decode cX6_isCutOpen 22 = .ok (.iconst 1, 1) := by decide +kernel
theorem dX6_isCutOpen_23 : decode cX6_isCutOpen 23 = .ok (.ireturn, 1) := by decide +kernel
theorem dX6_strikes_0 : decode cX6_strikes 0 = .ok (.aload_n 1, 1) := by decide +kernel
theorem dX6_strikes_1 : decode cX6_strikes 1 = .ok (.aload_n 0, 1) := by decide +kernel
theorem dX6_strikes_2 : decode cX6_strikes 2 = .ok (.getfield 44, 3) := by decide +kernel
theorem dX6_strikes_5 : decode cX6_strikes 5 = .ok (.invokevirtual 108, 3) := by decide +kernel
theorem dX6_strikes_8 : decode cX6_strikes 8 = .ok (.ifCond .eq 22, 3) := by decide +kernel
theorem dX6_strikes_11 : decode cX6_strikes 11 = .ok (.aload_n 0, 1) := by decide +kernel
theorem dX6_strikes_12 : decode cX6_strikes 12 = .ok (.getfield 50, 3) := by decide +kernel
theorem dX6_strikes_15 : decode cX6_strikes 15 = .ok (.iconst (-1), 1) := by decide +kernel
theorem dX6_strikes_16 : decode cX6_strikes 16 = .ok (.if_icmp .eq 14, 3) := by decide +kernel
theorem dX6_strikes_19 : decode cX6_strikes 19 = .ok (.aload_n 0, 1) := by decide +kernel
theorem dX6_strikes_20 : decode cX6_strikes 20 = .ok (.getfield 47, 3) := by decide +kernel
theorem dX6_strikes_23 : decode cX6_strikes 23 = .ok (.aload_n 1, 1) := by decide +kernel
theorem dX6_strikes_24 : decode cX6_strikes 24 = .ok (.getfield 111, 3) := by decide +kernel
theorem dX6_strikes_27 : decode cX6_strikes 27 = .ok (.if_icmp .lt 5, 3) := by decide +kernel
theorem dX6_strikes_30 : decode cX6_strikes 30 = .ok (.iconst 0, 1) := by decide +kernel
theorem dX6_strikes_31 : decode cX6_strikes 31 = .ok (.ireturn, 1) := by decide +kernel
theorem dX6_strikes_32 : decode cX6_strikes 32 = .ok (.aload_n 0, 1) := by decide +kernel
theorem dX6_strikes_33 : decode cX6_strikes 33 = .ok (.iconst 2, 1) := by decide +kernel
theorem dX6_strikes_34 : decode cX6_strikes 34 = .ok (.putfield 66, 3) := by decide +kernel
theorem dX6_strikes_37 : decode cX6_strikes 37 = .ok (.aload_n 0, 1) := by decide +kernel
theorem dX6_strikes_38 : decode cX6_strikes 38 = .ok (.aload_n 0, 1) := by decide +kernel
theorem dX6_strikes_39 : decode cX6_strikes 39 = .ok (.aload_n 1, 1) := by decide +kernel
theorem dX6_strikes_40 : decode cX6_strikes 40 = .ok (.iload_n 2, 1) := by decide +kernel
theorem dX6_strikes_41 : decode cX6_strikes 41 = .ok (.iload_n 3, 1) := by decide +kernel
theorem dX6_strikes_42 : decode cX6_strikes 42 = .ok (.iconst 0, 1) := by decide +kernel
theorem dX6_strikes_43 : decode cX6_strikes 43 = .ok (.invokevirtual 117, 3) := by decide +kernel
theorem dX6_strikes_46 : decode cX6_strikes 46 = .ok (.putfield 69, 3) := by decide +kernel
theorem dX6_strikes_49 : decode cX6_strikes 49 = .ok (.aload_n 0, 1) := by decide +kernel
theorem dX6_strikes_50 : decode cX6_strikes 50 = .ok (.getfield 69, 3) := by decide +kernel
theorem dX6_strikes_53 : decode cX6_strikes 53 = .ok (.iconst (-1), 1) := by decide +kernel
theorem dX6_strikes_54 : decode cX6_strikes 54 = .ok (.if_icmp .ne 20, 3) := by decide +kernel
theorem dX6_strikes_57 : decode cX6_strikes 57 = .ok (.aload_n 0, 1) := by decide +kernel
theorem dX6_strikes_58 : decode cX6_strikes 58 = .ok (.iconst 1, 1) := by decide +kernel
theorem dX6_strikes_59 : decode cX6_strikes 59 = .ok (.putfield 66, 3) := by decide +kernel
theorem dX6_strikes_62 : decode cX6_strikes 62 = .ok (.aload_n 0, 1) := by decide +kernel
theorem dX6_strikes_63 : decode cX6_strikes 63 = .ok (.aload_n 0, 1) := by decide +kernel
theorem dX6_strikes_64 : decode cX6_strikes 64 = .ok (.aload_n 1, 1) := by decide +kernel
theorem dX6_strikes_65 : decode cX6_strikes 65 = .ok (.iload_n 2, 1) := by decide +kernel
theorem dX6_strikes_66 : decode cX6_strikes 66 = .ok (.iload_n 3, 1) := by decide +kernel
theorem dX6_strikes_67 : decode cX6_strikes 67 = .ok (.iconst 1, 1) := by decide +kernel
theorem dX6_strikes_68 : decode cX6_strikes 68 = .ok (.invokevirtual 117, 3) := by decide +kernel
theorem dX6_strikes_71 : decode cX6_strikes 71 = .ok (.putfield 69, 3) := by decide +kernel
theorem dX6_strikes_74 : decode cX6_strikes 74 = .ok (.aload_n 0, 1) := by decide +kernel
theorem dX6_strikes_75 : decode cX6_strikes 75 = .ok (.getfield 69, 3) := by decide +kernel
theorem dX6_strikes_78 : decode cX6_strikes 78 = .ok (.iconst (-1), 1) := by decide +kernel
theorem dX6_strikes_79 : decode cX6_strikes 79 = .ok (.if_icmp .ne 11, 3) := by decide +kernel
theorem dX6_strikes_82 : decode cX6_strikes 82 = .ok (.aload_n 0, 1) := by decide +kernel
theorem dX6_strikes_83 : decode cX6_strikes 83 = .ok (.iconst 0, 1) := by decide +kernel
theorem dX6_strikes_84 : decode cX6_strikes 84 = .ok (.putfield 66, 3) := by decide +kernel
theorem dX6_strikes_87 : decode cX6_strikes 87 = .ok (.goto 42, 3) := by decide +kernel
theorem dX6_strikes_90 : decode cX6_strikes 90 = .ok (.aload_n 0, 1) := by decide +kernel
theorem dX6_strikes_91 : decode cX6_strikes 91 = .ok (.aload_n 0, 1) := by decide +kernel
theorem dX6_strikes_92 : decode cX6_strikes 92 = .ok (.getfield 69, 3) := by decide +kernel
theorem dX6_strikes_95 : decode cX6_strikes 95 = .ok (.aload_n 0, 1) := by decide +kernel
theorem dX6_strikes_96 : decode cX6_strikes 96 = .ok (.getfield 66, 3) := by decide +kernel
theorem dX6_strikes_99 : decode cX6_strikes 99 = .ok (.iconst 2, 1) := by decide +kernel
theorem dX6_strikes_100 : decode cX6_strikes 100 = .ok (.if_icmp .ne 15, 3) := by decide +kernel
theorem dX6_strikes_103 : decode cX6_strikes 103 = .ok (.aload_n 1, 1) := by decide +kernel
theorem dX6_strikes_104 : decode cX6_strikes 104 = .ok (.getfield 121, 3) := by decide +kernel
theorem dX6_strikes_107 : decode cX6_strikes 107 = .ok (.aload_n 0, 1) := by decide +kernel
theorem dX6_strikes_108 : decode cX6_strikes 108 = .ok (.getfield 44, 3) := by decide +kernel
theorem dX6_strikes_111 : decode cX6_strikes 111 = .ok (.iaload, 1) := by decide +kernel
theorem dX6_strikes_112 : decode cX6_strikes 112 = .ok (.goto 14, 3) := by decide +kernel
theorem dX6_strikes_115 : decode cX6_strikes 115 = .ok (.aload_n 1, 1) := by decide +kernel
theorem dX6_strikes_116 : decode cX6_strikes 116 = .ok (.getfield 121, 3) := by decide +kernel
theorem dX6_strikes_119 : decode cX6_strikes 119 = .ok (.aload_n 0, 1) := by decide +kernel
theorem dX6_strikes_120 : decode cX6_strikes 120 = .ok (.getfield 44, 3) := by decide +kernel
theorem dX6_strikes_123 : decode cX6_strikes 123 = .ok (.iaload, 1) := by decide +kernel
theorem dX6_strikes_124 : decode cX6_strikes 124 = .ok (.iconst 2, 1) := by decide +kernel
theorem dX6_strikes_125 : decode cX6_strikes 125 = .ok (.idiv, 1) := by decide +kernel
theorem dX6_strikes_126 : decode cX6_strikes 126 = .ok (.invokevirtual 124, 3) := by decide +kernel
theorem dX6_strikes_129 : decode cX6_strikes 129 = .ok (.aload_n 0, 1) := by decide +kernel
theorem dX6_strikes_130 : decode cX6_strikes 130 = .ok (.dup, 1) := by decide +kernel
theorem dX6_strikes_131 : decode cX6_strikes 131 = .ok (.getfield 47, 3) := by decide +kernel
theorem dX6_strikes_134 : decode cX6_strikes 134 = .ok (.iconst 1, 1) := by decide +kernel
theorem dX6_strikes_135 : decode cX6_strikes 135 = .ok (.iadd, 1) := by decide +kernel
theorem dX6_strikes_136 : decode cX6_strikes 136 = .ok (.putfield 47, 3) := by decide +kernel
theorem dX6_strikes_139 : decode cX6_strikes 139 = .ok (.aload_n 0, 1) := by decide +kernel
theorem dX6_strikes_140 : decode cX6_strikes 140 = .ok (.getfield 15, 3) := by decide +kernel
theorem dX6_strikes_143 : decode cX6_strikes 143 = .ok (.aload_n 0, 1) := by decide +kernel
theorem dX6_strikes_144 : decode cX6_strikes 144 = .ok (.getfield 66, 3) := by decide +kernel
theorem dX6_strikes_147 : decode cX6_strikes 147 = .ok (.bipush 8, 2) := by decide +kernel
theorem dX6_strikes_149 : decode cX6_strikes 149 = .ok (.imul, 1) := by decide +kernel
theorem dX6_strikes_150 : decode cX6_strikes 150 = .ok (.aload_n 0, 1) := by decide +kernel
theorem dX6_strikes_151 : decode cX6_strikes 151 = .ok (.getfield 44, 3) := by decide +kernel
theorem dX6_strikes_154 : decode cX6_strikes 154 = .ok (.iadd, 1) := by decide +kernel
theorem dX6_strikes_155 : decode cX6_strikes 155 = .ok (.dup2, 1) := by decide +kernel
theorem dX6_strikes_156 : decode cX6_strikes 156 = .ok (.iaload, 1) := by decide +kernel
theorem dX6_strikes_157 : decode cX6_strikes 157 = .ok (.iconst 1, 1) := by decide +kernel
theorem dX6_strikes_158 : decode cX6_strikes 158 = .ok (.iadd, 1) := by decide +kernel
theorem dX6_strikes_159 : decode cX6_strikes 159 = .ok (.iastore, 1) := by decide +kernel
theorem dX6_strikes_160 : decode cX6_strikes 160 = .ok (.iconst 1, 1) := by decide +kernel
theorem dX6_strikes_161 : decode cX6_strikes 161 = .ok (.ireturn, 1) := by decide +kernel
theorem dX6_firstPartOff_0 : decode cX6_firstPartOff 0 = .ok (.iconst 0, 1) := by decide +kernel
theorem dX6_firstPartOff_1 : decode cX6_firstPartOff 1 = .ok (.istore 5, 2) := by decide +kernel
theorem dX6_firstPartOff_3 : decode cX6_firstPartOff 3 = .ok (.iload 5, 2) := by decide +kernel
theorem dX6_firstPartOff_5 : decode cX6_firstPartOff 5 = .ok (.aload_n 1, 1) := by decide +kernel
theorem dX6_firstPartOff_6 : decode cX6_firstPartOff 6 = .ok (.getfield 128, 3) := by decide +kernel
theorem dX6_firstPartOff_9 : decode cX6_firstPartOff 9 = .ok (.if_icmp .ge 57, 3) := by decide +kernel
theorem dX6_firstPartOff_12 : decode cX6_firstPartOff 12 = .ok (.aload_n 1, 1) := by decide +kernel
theorem dX6_firstPartOff_13 : decode cX6_firstPartOff 13 = .ok (.getfield 131, 3) := by decide +kernel
theorem dX6_firstPartOff_16 : decode cX6_firstPartOff 16 = .ok (.iload 5, 2) := by decide +kernel
theorem dX6_firstPartOff_18 : decode cX6_firstPartOff 18 = .ok (.iaload, 1) := by decide +kernel
theorem dX6_firstPartOff_19 : decode cX6_firstPartOff 19 = .ok (.aload_n 0, 1) := by decide +kernel
theorem dX6_firstPartOff_20 : decode cX6_firstPartOff 20 = .ok (.getfield 53, 3) := by decide +kernel
theorem dX6_firstPartOff_23 : decode cX6_firstPartOff 23 = .ok (.iadd, 1) := by decide +kernel
theorem dX6_firstPartOff_24 : decode cX6_firstPartOff 24 = .ok (.iload_n 3, 1) := by decide +kernel
theorem dX6_firstPartOff_25 : decode cX6_firstPartOff 25 = .ok (.isub, 1) := by decide +kernel
theorem dX6_firstPartOff_26 : decode cX6_firstPartOff 26 = .ok (.invokestatic 134, 3) := by decide +kernel
theorem dX6_firstPartOff_29 : decode cX6_firstPartOff 29 = .ok (.istore 6, 2) := by decide +kernel
theorem dX6_firstPartOff_31 : decode cX6_firstPartOff 31 = .ok (.aload_n 0, 1) := by decide +kernel
theorem dX6_firstPartOff_32 : decode cX6_firstPartOff 32 = .ok (.getfield 9, 3) := by decide +kernel
theorem dX6_firstPartOff_35 : decode cX6_firstPartOff 35 = .ok (.iload 5, 2) := by decide +kernel
theorem dX6_firstPartOff_37 : decode cX6_firstPartOff 37 = .ok (.iaload, 1) := by decide +kernel
theorem dX6_firstPartOff_38 : decode cX6_firstPartOff 38 = .ok (.ifCond .le 22, 3) := by decide +kernel
theorem dX6_firstPartOff_41 : decode cX6_firstPartOff 41 = .ok (.aload_n 0, 1) := by decide +kernel
theorem dX6_firstPartOff_42 : decode cX6_firstPartOff 42 = .ok (.getfield 50, 3) := by decide +kernel
theorem dX6_firstPartOff_45 : decode cX6_firstPartOff 45 = .ok (.iload_n 2, 1) := by decide +kernel
theorem dX6_firstPartOff_46 : decode cX6_firstPartOff 46 = .ok (.invokestatic 140, 3) := by decide +kernel
theorem dX6_firstPartOff_49 : decode cX6_firstPartOff 49 = .ok (.iload 6, 2) := by decide +kernel
theorem dX6_firstPartOff_51 : decode cX6_firstPartOff 51 = .ok (.iadd, 1) := by decide +kernel
theorem dX6_firstPartOff_52 : decode cX6_firstPartOff 52 = .ok (.iload 4, 2) := by decide +kernel
theorem dX6_firstPartOff_54 : decode cX6_firstPartOff 54 = .ok (.if_icmp .ne 6, 3) := by decide +kernel
theorem dX6_firstPartOff_57 : decode cX6_firstPartOff 57 = .ok (.iload 5, 2) := by decide +kernel
theorem dX6_firstPartOff_59 : decode cX6_firstPartOff 59 = .ok (.ireturn, 1) := by decide +kernel
theorem dX6_firstPartOff_60 : decode cX6_firstPartOff 60 = .ok (.iinc 5 1, 3) := by decide +kernel
theorem dX6_firstPartOff_63 : decode cX6_firstPartOff 63 = .ok (.goto (-60), 3) := by decide +kernel
theorem dX6_firstPartOff_66 : decode cX6_firstPartOff 66 = .ok (.iconst (-1), 1) := by decide +kernel
theorem dX6_firstPartOff_67 : decode cX6_firstPartOff 67 = .ok (.ireturn, 1) := by decide +kernel
theorem dX6_takes_0 : decode cX6_takes 0 = .ok (.iload_n 1, 1) := by decide +kernel
theorem dX6_takes_1 : decode cX6_takes 1 = .ok (.ifCond .lt 24, 3) := by decide +kernel
theorem dX6_takes_4 : decode cX6_takes 4 = .ok (.iload_n 1, 1) := by decide +kernel
theorem dX6_takes_5 : decode cX6_takes 5 = .ok (.iconst 5, 1) := by decide +kernel
theorem dX6_takes_6 : decode cX6_takes 6 = .ok (.if_icmp .ge 19, 3) := by decide +kernel
theorem dX6_takes_9 : decode cX6_takes 9 = .ok (.aload_n 0, 1) := by decide +kernel
theorem dX6_takes_10 : decode cX6_takes 10 = .ok (.getfield 44, 3) := by decide +kernel
theorem dX6_takes_13 : decode cX6_takes 13 = .ok (.ifCond .lt 12, 3) := by decide +kernel
theorem dX6_takes_16 : decode cX6_takes 16 = .ok (.aload_n 0, 1) := by decide +kernel
theorem dX6_takes_17 : decode cX6_takes 17 = .ok (.getfield 44, 3) := by decide +kernel
theorem dX6_takes_20 : decode cX6_takes 20 = .ok (.bipush 8, 2) := by decide +kernel
theorem dX6_takes_22 : decode cX6_takes 22 = .ok (.if_icmp .lt 4, 3) := by decide +kernel
theorem dX6_takes_25 : decode cX6_takes 25 = .ok (.return_, 1) := by decide +kernel
theorem dX6_takes_26 : decode cX6_takes 26 = .ok (.aload_n 0, 1) := by decide +kernel
theorem dX6_takes_27 : decode cX6_takes 27 = .ok (.getfield 9, 3) := by decide +kernel
theorem dX6_takes_30 : decode cX6_takes 30 = .ok (.iload_n 1, 1) := by decide +kernel
theorem dX6_takes_31 : decode cX6_takes 31 = .ok (.iaload, 1) := by decide +kernel
theorem dX6_takes_32 : decode cX6_takes 32 = .ok (.iload_n 2, 1) := by decide +kernel
theorem dX6_takes_33 : decode cX6_takes 33 = .ok (.invokestatic 144, 3) := by decide +kernel
theorem dX6_takes_36 : decode cX6_takes 36 = .ok (.istore_n 3, 1) := by decide +kernel
theorem dX6_takes_37 : decode cX6_takes 37 = .ok (.aload_n 0, 1) := by decide +kernel
theorem dX6_takes_38 : decode cX6_takes 38 = .ok (.getfield 9, 3) := by decide +kernel
theorem dX6_takes_41 : decode cX6_takes 41 = .ok (.iload_n 1, 1) := by decide +kernel
theorem dX6_takes_42 : decode cX6_takes 42 = .ok (.dup2, 1) := by decide +kernel
theorem dX6_takes_43 : decode cX6_takes 43 = .ok (.iaload, 1) := by decide +kernel
theorem dX6_takes_44 : decode cX6_takes 44 = .ok (.iload_n 3, 1) := by decide +kernel
theorem dX6_takes_45 : decode cX6_takes 45 = .ok (.isub, 1) := by decide +kernel
theorem dX6_takes_46 : decode cX6_takes 46 = .ok (.iastore, 1) := by decide +kernel
theorem dX6_takes_47 : decode cX6_takes 47 = .ok (.aload_n 0, 1) := by decide +kernel
theorem dX6_takes_48 : decode cX6_takes 48 = .ok (.getfield 18, 3) := by decide +kernel
theorem dX6_takes_51 : decode cX6_takes 51 = .ok (.aload_n 0, 1) := by decide +kernel
theorem dX6_takes_52 : decode cX6_takes 52 = .ok (.getfield 44, 3) := by decide +kernel
theorem dX6_takes_55 : decode cX6_takes 55 = .ok (.dup2, 1) := by decide +kernel
theorem dX6_takes_56 : decode cX6_takes 56 = .ok (.iaload, 1) := by decide +kernel
theorem dX6_takes_57 : decode cX6_takes 57 = .ok (.iload_n 3, 1) := by decide +kernel
theorem dX6_takes_58 : decode cX6_takes 58 = .ok (.iadd, 1) := by decide +kernel
theorem dX6_takes_59 : decode cX6_takes 59 = .ok (.iastore, 1) := by decide +kernel
theorem dX6_takes_60 : decode cX6_takes 60 = .ok (.iload_n 1, 1) := by decide +kernel
theorem dX6_takes_61 : decode cX6_takes 61 = .ok (.ifCond .ne 35, 3) := by decide +kernel
theorem dX6_takes_64 : decode cX6_takes 64 = .ok (.aload_n 0, 1) := by decide +kernel
theorem dX6_takes_65 : decode cX6_takes 65 = .ok (.dup, 1) := by decide +kernel
theorem dX6_takes_66 : decode cX6_takes 66 = .ok (.getfield 72, 3) := by decide +kernel
theorem dX6_takes_69 : decode cX6_takes 69 = .ok (.iload_n 2, 1) := by decide +kernel
theorem dX6_takes_70 : decode cX6_takes 70 = .ok (.iadd, 1) := by decide +kernel
theorem dX6_takes_71 : decode cX6_takes 71 = .ok (.putfield 72, 3) := by decide +kernel
theorem dX6_takes_74 : decode cX6_takes 74 = .ok (.aload_n 0, 1) := by decide +kernel
theorem dX6_takes_75 : decode cX6_takes 75 = .ok (.iload_n 2, 1) := by decide +kernel
theorem dX6_takes_76 : decode cX6_takes 76 = .ok (.putfield 75, 3) := by decide +kernel
theorem dX6_takes_79 : decode cX6_takes 79 = .ok (.aload_n 0, 1) := by decide +kernel
theorem dX6_takes_80 : decode cX6_takes 80 = .ok (.getfield 9, 3) := by decide +kernel
theorem dX6_takes_83 : decode cX6_takes 83 = .ok (.iconst 0, 1) := by decide +kernel
theorem dX6_takes_84 : decode cX6_takes 84 = .ok (.iaload, 1) := by decide +kernel
theorem dX6_takes_85 : decode cX6_takes 85 = .ok (.ifCond .ne 11, 3) := by decide +kernel
theorem dX6_takes_88 : decode cX6_takes 88 = .ok (.aload_n 0, 1) := by decide +kernel
theorem dX6_takes_89 : decode cX6_takes 89 = .ok (.aload_n 0, 1) := by decide +kernel
theorem dX6_takes_90 : decode cX6_takes 90 = .ok (.getfield 44, 3) := by decide +kernel
theorem dX6_takes_93 : decode cX6_takes 93 = .ok (.putfield 56, 3) := by decide +kernel
theorem dX6_takes_96 : decode cX6_takes 96 = .ok (.return_, 1) := by decide +kernel
theorem dX6_leastBelly_0 : decode cX6_leastBelly 0 = .ok (.aload_n 0, 1) := by decide +kernel
theorem dX6_leastBelly_1 : decode cX6_leastBelly 1 = .ok (.getfield 56, 3) := by decide +kernel
theorem dX6_leastBelly_4 : decode cX6_leastBelly 4 = .ok (.iconst (-1), 1) := by decide +kernel
theorem dX6_leastBelly_5 : decode cX6_leastBelly 5 = .ok (.if_icmp .ne 12, 3) := by decide +kernel
theorem dX6_leastBelly_8 : decode cX6_leastBelly 8 = .ok (.aload_n 0, 1) := by decide +kernel
theorem dX6_leastBelly_9 : decode cX6_leastBelly 9 = .ok (.getfield 72, 3) := by decide +kernel
theorem dX6_leastBelly_12 : decode cX6_leastBelly 12 = .ok (.iconst 1, 1) := by decide +kernel
theorem dX6_leastBelly_13 : decode cX6_leastBelly 13 = .ok (.iadd, 1) := by decide +kernel
theorem dX6_leastBelly_14 : decode cX6_leastBelly 14 = .ok (.goto 14, 3) := by decide +kernel
theorem dX6_leastBelly_17 : decode cX6_leastBelly 17 = .ok (.aload_n 0, 1) := by decide +kernel
theorem dX6_leastBelly_18 : decode cX6_leastBelly 18 = .ok (.getfield 72, 3) := by decide +kernel
theorem dX6_leastBelly_21 : decode cX6_leastBelly 21 = .ok (.aload_n 0, 1) := by decide +kernel
theorem dX6_leastBelly_22 : decode cX6_leastBelly 22 = .ok (.getfield 75, 3) := by decide +kernel
theorem dX6_leastBelly_25 : decode cX6_leastBelly 25 = .ok (.isub, 1) := by decide +kernel
theorem dX6_leastBelly_26 : decode cX6_leastBelly 26 = .ok (.iconst 1, 1) := by decide +kernel
theorem dX6_leastBelly_27 : decode cX6_leastBelly 27 = .ok (.iadd, 1) := by decide +kernel
theorem dX6_leastBelly_28 : decode cX6_leastBelly 28 = .ok (.ireturn, 1) := by decide +kernel
theorem dX6_mostBelly_0 : decode cX6_mostBelly 0 = .ok (.aload_n 0, 1) := by decide +kernel
theorem dX6_mostBelly_1 : decode cX6_mostBelly 1 = .ok (.getfield 56, 3) := by decide +kernel
theorem dX6_mostBelly_4 : decode cX6_mostBelly 4 = .ok (.iconst (-1), 1) := by decide +kernel
theorem dX6_mostBelly_5 : decode cX6_mostBelly 5 = .ok (.if_icmp .ne 8, 3) := by decide +kernel
theorem dX6_mostBelly_8 : decode cX6_mostBelly 8 = .ok (.bipush 30, 2) := by decide +kernel
theorem dX6_mostBelly_10 : decode cX6_mostBelly 10 = .ok (.goto 12, 3) := by decide +kernel
theorem dX6_mostBelly_13 : decode cX6_mostBelly 13 = .ok (.bipush 30, 2) := by decide +kernel
theorem dX6_mostBelly_15 : decode cX6_mostBelly 15 = .ok (.aload_n 0, 1) := by decide +kernel
theorem dX6_mostBelly_16 : decode cX6_mostBelly 16 = .ok (.getfield 72, 3) := by decide +kernel
theorem dX6_mostBelly_19 : decode cX6_mostBelly 19 = .ok (.invokestatic 144, 3) := by decide +kernel
theorem dX6_mostBelly_22 : decode cX6_mostBelly 22 = .ok (.ireturn, 1) := by decide +kernel
theorem dX6_answer_0 : decode cX6_answer 0 = .ok (.iload_n 2, 1) := by decide +kernel
theorem dX6_answer_1 : decode cX6_answer 1 = .ok (.bipush 10, 2) := by decide +kernel
theorem dX6_answer_3 : decode cX6_answer 3 = .ok (.if_icmp .lt 24, 3) := by decide +kernel
theorem dX6_answer_6 : decode cX6_answer 6 = .ok (.iload_n 2, 1) := by decide +kernel
theorem dX6_answer_7 : decode cX6_answer 7 = .ok (.bipush 10, 2) := by decide +kernel
theorem dX6_answer_9 : decode cX6_answer 9 = .ok (.aload_n 1, 1) := by decide +kernel
theorem dX6_answer_10 : decode cX6_answer 10 = .ok (.getfield 128, 3) := by decide +kernel
theorem dX6_answer_13 : decode cX6_answer 13 = .ok (.iadd, 1) := by decide +kernel
theorem dX6_answer_14 : decode cX6_answer 14 = .ok (.if_icmp .ge 13, 3) := by decide +kernel
theorem dX6_answer_17 : decode cX6_answer 17 = .ok (.aload_n 0, 1) := by decide +kernel
theorem dX6_answer_18 : decode cX6_answer 18 = .ok (.getfield 9, 3) := by decide +kernel
theorem dX6_answer_21 : decode cX6_answer 21 = .ok (.iload_n 2, 1) := by decide +kernel
theorem dX6_answer_22 : decode cX6_answer 22 = .ok (.bipush 10, 2) := by decide +kernel
theorem dX6_answer_24 : decode cX6_answer 24 = .ok (.isub, 1) := by decide +kernel
theorem dX6_answer_25 : decode cX6_answer 25 = .ok (.iaload, 1) := by decide +kernel
theorem dX6_answer_26 : decode cX6_answer 26 = .ok (.ireturn, 1) := by decide +kernel
theorem dX6_answer_27 : decode cX6_answer 27 = .ok (.iload_n 2, 1) := by decide +kernel
theorem dX6_answer_28 : decode cX6_answer 28 = .ok (.tableswitch 105 0 8 #[52, 57, 62, 67, 72, 77, 90, 95, 100], 52) := by decide +kernel
theorem dX6_answer_80 : decode cX6_answer 80 = .ok (.aload_n 0, 1) := by decide +kernel
theorem dX6_answer_81 : decode cX6_answer 81 = .ok (.getfield 44, 3) := by decide +kernel
theorem dX6_answer_84 : decode cX6_answer 84 = .ok (.ireturn, 1) := by decide +kernel
theorem dX6_answer_85 : decode cX6_answer 85 = .ok (.aload_n 0, 1) := by decide +kernel
theorem dX6_answer_86 : decode cX6_answer 86 = .ok (.getfield 47, 3) := by decide +kernel
theorem dX6_answer_89 : decode cX6_answer 89 = .ok (.ireturn, 1) := by decide +kernel
theorem dX6_answer_90 : decode cX6_answer 90 = .ok (.aload_n 0, 1) := by decide +kernel
theorem dX6_answer_91 : decode cX6_answer 91 = .ok (.getfield 50, 3) := by decide +kernel
theorem dX6_answer_94 : decode cX6_answer 94 = .ok (.ireturn, 1) := by decide +kernel
theorem dX6_answer_95 : decode cX6_answer 95 = .ok (.aload_n 0, 1) := by decide +kernel
theorem dX6_answer_96 : decode cX6_answer 96 = .ok (.getfield 53, 3) := by decide +kernel
theorem dX6_answer_99 : decode cX6_answer 99 = .ok (.ireturn, 1) := by decide +kernel
theorem dX6_answer_100 : decode cX6_answer 100 = .ok (.aload_n 0, 1) := by decide +kernel
theorem dX6_answer_101 : decode cX6_answer 101 = .ok (.getfield 56, 3) := by decide +kernel
theorem dX6_answer_104 : decode cX6_answer 104 = .ok (.ireturn, 1) := by decide +kernel
theorem dX6_answer_105 : decode cX6_answer 105 = .ok (.aload_n 0, 1) := by decide +kernel
theorem dX6_answer_106 : decode cX6_answer 106 = .ok (.getfield 59, 3) := by decide +kernel
theorem dX6_answer_109 : decode cX6_answer 109 = .ok (.ifCond .eq 7, 3) := by decide +kernel
theorem dX6_answer_112 : decode cX6_answer 112 = .ok (.iconst 1, 1) := by decide +kernel
theorem dX6_answer_113 : decode cX6_answer 113 = .ok (.goto 4, 3) := by decide +kernel
theorem dX6_answer_116 : decode cX6_answer 116 = .ok (.iconst 0, 1) := by decide +kernel
theorem dX6_answer_117 : decode cX6_answer 117 = .ok (.ireturn, 1) := by decide +kernel
theorem dX6_answer_118 : decode cX6_answer 118 = .ok (.aload_n 0, 1) := by decide +kernel
theorem dX6_answer_119 : decode cX6_answer 119 = .ok (.getfield 63, 3) := by decide +kernel
theorem dX6_answer_122 : decode cX6_answer 122 = .ok (.ireturn, 1) := by decide +kernel
theorem dX6_answer_123 : decode cX6_answer 123 = .ok (.aload_n 0, 1) := by decide +kernel
theorem dX6_answer_124 : decode cX6_answer 124 = .ok (.getfield 66, 3) := by decide +kernel
theorem dX6_answer_127 : decode cX6_answer 127 = .ok (.ireturn, 1) := by decide +kernel
theorem dX6_answer_128 : decode cX6_answer 128 = .ok (.aload_n 0, 1) := by decide +kernel
theorem dX6_answer_129 : decode cX6_answer 129 = .ok (.getfield 69, 3) := by decide +kernel
theorem dX6_answer_132 : decode cX6_answer 132 = .ok (.ireturn, 1) := by decide +kernel
theorem dX6_answer_133 : decode cX6_answer 133 = .ok (.bipush (-2), 2) := by decide +kernel
theorem dX6_answer_135 : decode cX6_answer 135 = .ok (.ireturn, 1) := by decide +kernel
theorem dX6_answerOf_0 : decode cX6_answerOf 0 = .ok (.iload_n 1, 1) := by decide +kernel
theorem dX6_answerOf_1 : decode cX6_answerOf 1 = .ok (.ifCond .lt 9, 3) := by decide +kernel
theorem dX6_answerOf_4 : decode cX6_answerOf 4 = .ok (.iload_n 1, 1) := by decide +kernel
theorem dX6_answerOf_5 : decode cX6_answerOf 5 = .ok (.bipush 8, 2) := by decide +kernel
theorem dX6_answerOf_7 : decode cX6_answerOf 7 = .ok (.if_icmp .lt 6, 3) := by decide +kernel
theorem dX6_answerOf_10 : decode cX6_answerOf 10 = .ok (.bipush (-2), 2) := by decide +kernel
theorem dX6_answerOf_12 : decode cX6_answerOf 12 = .ok (.ireturn, 1) := by decide +kernel
theorem dX6_answerOf_13 : decode cX6_answerOf 13 = .ok (.iload_n 2, 1) := by decide +kernel
theorem dX6_answerOf_14 : decode cX6_answerOf 14 = .ok (.iconst 3, 1) := by decide +kernel
theorem dX6_answerOf_15 : decode cX6_answerOf 15 = .ok (.if_icmp .ne 10, 3) := by decide +kernel
theorem dX6_answerOf_18 : decode cX6_answerOf 18 = .ok (.aload_n 0, 1) := by decide +kernel
theorem dX6_answerOf_19 : decode cX6_answerOf 19 = .ok (.getfield 18, 3) := by decide +kernel
theorem dX6_answerOf_22 : decode cX6_answerOf 22 = .ok (.iload_n 1, 1) := by decide +kernel
theorem dX6_answerOf_23 : decode cX6_answerOf 23 = .ok (.iaload, 1) := by decide +kernel
theorem dX6_answerOf_24 : decode cX6_answerOf 24 = .ok (.ireturn, 1) := by decide +kernel
theorem dX6_answerOf_25 : decode cX6_answerOf 25 = .ok (.iload_n 2, 1) := by decide +kernel
theorem dX6_answerOf_26 : decode cX6_answerOf 26 = .ok (.ifCond .lt 22, 3) := by decide +kernel
theorem dX6_answerOf_29 : decode cX6_answerOf 29 = .ok (.iload_n 2, 1) := by decide +kernel
theorem dX6_answerOf_30 : decode cX6_answerOf 30 = .ok (.iconst 3, 1) := by decide +kernel
theorem dX6_answerOf_31 : decode cX6_answerOf 31 = .ok (.if_icmp .ge 17, 3) := by decide +kernel
theorem dX6_answerOf_34 : decode cX6_answerOf 34 = .ok (.aload_n 0, 1) := by decide +kernel
theorem dX6_answerOf_35 : decode cX6_answerOf 35 = .ok (.getfield 15, 3) := by decide +kernel
theorem dX6_answerOf_38 : decode cX6_answerOf 38 = .ok (.iload_n 2, 1) := by decide +kernel
theorem dX6_answerOf_39 : decode cX6_answerOf 39 = .ok (.bipush 8, 2) := by decide +kernel
theorem dX6_answerOf_41 : decode cX6_answerOf 41 = .ok (.imul, 1) := by decide +kernel
theorem dX6_answerOf_42 : decode cX6_answerOf 42 = .ok (.iload_n 1, 1) := by decide +kernel
theorem dX6_answerOf_43 : decode cX6_answerOf 43 = .ok (.iadd, 1) := by decide +kernel
theorem dX6_answerOf_44 : decode cX6_answerOf 44 = .ok (.iaload, 1) := by decide +kernel
theorem dX6_answerOf_45 : decode cX6_answerOf 45 = .ok (.goto 5, 3) := by decide +kernel
theorem dX6_answerOf_48 : decode cX6_answerOf 48 = .ok (.bipush (-2), 2) := by decide +kernel
theorem dX6_answerOf_50 : decode cX6_answerOf 50 = .ok (.ireturn, 1) := by decide +kernel
theorem dX7_init_0 : decode cX7_init 0 = .ok (.aload_n 0, 1) := by decide +kernel
theorem dX7_init_1 : decode cX7_init 1 = .ok (.invokespecial 3, 3) := by decide +kernel
theorem dX7_init_4 : decode cX7_init 4 = .ok (.aload_n 0, 1) := by decide +kernel
theorem dX7_init_5 : decode cX7_init 5 = .ok (.new 9, 3) := by decide +kernel
theorem dX7_init_8 : decode cX7_init 8 = .ok (.dup, 1) := by decide +kernel
theorem dX7_init_9 : decode cX7_init 9 = .ok (.invokespecial 11, 3) := by decide +kernel
theorem dX7_init_12 : decode cX7_init 12 = .ok (.putfield 12, 3) := by decide +kernel
theorem dX7_init_15 : decode cX7_init 15 = .ok (.aload_n 0, 1) := by decide +kernel
theorem dX7_init_16 : decode cX7_init 16 = .ok (.new 18, 3) := by decide +kernel
theorem dX7_init_19 : decode cX7_init 19 = .ok (.dup, 1) := by decide +kernel
theorem dX7_init_20 : decode cX7_init 20 = .ok (.bipush 40, 2) := by decide +kernel
theorem dX7_init_22 : decode cX7_init 22 = .ok (.invokespecial 20, 3) := by decide +kernel
theorem dX7_init_25 : decode cX7_init 25 = .ok (.putfield 23, 3) := by decide +kernel
theorem dX7_init_28 : decode cX7_init 28 = .ok (.aload_n 0, 1) := by decide +kernel
theorem dX7_init_29 : decode cX7_init 29 = .ok (.new 27, 3) := by decide +kernel
theorem dX7_init_32 : decode cX7_init 32 = .ok (.dup, 1) := by decide +kernel
theorem dX7_init_33 : decode cX7_init 33 = .ok (.invokespecial 29, 3) := by decide +kernel
theorem dX7_init_36 : decode cX7_init 36 = .ok (.putfield 30, 3) := by decide +kernel
theorem dX7_init_39 : decode cX7_init 39 = .ok (.aload_n 0, 1) := by decide +kernel
theorem dX7_init_40 : decode cX7_init 40 = .ok (.new 18, 3) := by decide +kernel
theorem dX7_init_43 : decode cX7_init 43 = .ok (.dup, 1) := by decide +kernel
theorem dX7_init_44 : decode cX7_init 44 = .ok (.bipush 25, 2) := by decide +kernel
theorem dX7_init_46 : decode cX7_init 46 = .ok (.invokespecial 20, 3) := by decide +kernel
theorem dX7_init_49 : decode cX7_init 49 = .ok (.putfield 34, 3) := by decide +kernel
theorem dX7_init_52 : decode cX7_init 52 = .ok (.aload_n 0, 1) := by decide +kernel
theorem dX7_init_53 : decode cX7_init 53 = .ok (.new 37, 3) := by decide +kernel
theorem dX7_init_56 : decode cX7_init 56 = .ok (.dup, 1) := by decide +kernel
theorem dX7_init_57 : decode cX7_init 57 = .ok (.invokespecial 39, 3) := by decide +kernel
theorem dX7_init_60 : decode cX7_init 60 = .ok (.putfield 40, 3) := by decide +kernel
theorem dX7_init_63 : decode cX7_init 63 = .ok (.aload_n 0, 1) := by decide +kernel
theorem dX7_init_64 : decode cX7_init 64 = .ok (.iconst 4, 1) := by decide +kernel
theorem dX7_init_65 : decode cX7_init 65 = .ok (.newarray .int, 2) := by decide +kernel
theorem dX7_init_67 : decode cX7_init 67 = .ok (.putfield 44, 3) := by decide +kernel
theorem dX7_init_70 : decode cX7_init 70 = .ok (.return_, 1) := by decide +kernel
theorem dX7_reads_0 : decode cX7_reads 0 = .ok (.aload_n 0, 1) := by decide +kernel
theorem dX7_reads_1 : decode cX7_reads 1 = .ok (.iconst 0, 1) := by decide +kernel
theorem dX7_reads_2 : decode cX7_reads 2 = .ok (.putfield 48, 3) := by decide +kernel
theorem dX7_reads_5 : decode cX7_reads 5 = .ok (.aload_n 0, 1) := by decide +kernel
theorem dX7_reads_6 : decode cX7_reads 6 = .ok (.iconst (-1), 1) := by decide +kernel
theorem dX7_reads_7 : decode cX7_reads 7 = .ok (.putfield 52, 3) := by decide +kernel
theorem dX7_reads_10 : decode cX7_reads 10 = .ok (.aload_n 0, 1) := by decide +kernel
theorem dX7_reads_11 : decode cX7_reads 11 = .ok (.invokevirtual 55, 3) := by decide +kernel
theorem dX7_reads_14 : decode cX7_reads 14 = .ok (.aload_n 0, 1) := by decide +kernel
theorem dX7_reads_15 : decode cX7_reads 15 = .ok (.iconst 0, 1) := by decide +kernel
theorem dX7_reads_16 : decode cX7_reads 16 = .ok (.putfield 58, 3) := by decide +kernel
theorem dX7_reads_19 : decode cX7_reads 19 = .ok (.aload_n 0, 1) := by decide +kernel
theorem dX7_reads_20 : decode cX7_reads 20 = .ok (.aload_n 1, 1) := by decide +kernel
theorem dX7_reads_21 : decode cX7_reads 21 = .ok (.invokevirtual 61, 3) := by decide +kernel
theorem dX7_reads_24 : decode cX7_reads 24 = .ok (.iconst 0, 1) := by decide +kernel
theorem dX7_reads_25 : decode cX7_reads 25 = .ok (.istore_n 3, 1) := by decide +kernel
theorem dX7_reads_26 : decode cX7_reads 26 = .ok (.iload_n 3, 1) := by decide +kernel
theorem dX7_reads_27 : decode cX7_reads 27 = .ok (.sipush 600, 3) := by decide +kernel
theorem dX7_reads_30 : decode cX7_reads 30 = .ok (.if_icmp .ge 40, 3) := by decide +kernel
theorem dX7_reads_33 : decode cX7_reads 33 = .ok (.aload_n 0, 1) := by decide +kernel
theorem dX7_reads_34 : decode cX7_reads 34 = .ok (.getfield 65, 3) := by decide +kernel
theorem dX7_reads_37 : decode cX7_reads 37 = .ok (.ifCond .eq 33, 3) := by decide +kernel
theorem dX7_reads_40 : decode cX7_reads 40 = .ok (.aload_n 0, 1) := by decide +kernel
theorem dX7_reads_41 : decode cX7_reads 41 = .ok (.aload_n 1, 1) := by decide +kernel
theorem dX7_reads_42 : decode cX7_reads 42 = .ok (.iload_n 2, 1) := by decide +kernel
theorem dX7_reads_43 : decode cX7_reads 43 = .ok (.invokevirtual 68, 3) := by decide +kernel
theorem dX7_reads_46 : decode cX7_reads 46 = .ok (.ifCond .ne 18, 3) := by decide +kernel
theorem dX7_reads_49 : decode cX7_reads 49 = .ok (.aload_n 0, 1) := by decide +kernel
theorem dX7_reads_50 : decode cX7_reads 50 = .ok (.iconst 1, 1) := by decide +kernel
theorem dX7_reads_51 : decode cX7_reads 51 = .ok (.putfield 48, 3) := by decide +kernel
theorem dX7_reads_54 : decode cX7_reads 54 = .ok (.aload_n 0, 1) := by decide +kernel
theorem dX7_reads_55 : decode cX7_reads 55 = .ok (.aload_n 0, 1) := by decide +kernel
theorem dX7_reads_56 : decode cX7_reads 56 = .ok (.getfield 72, 3) := by decide +kernel
theorem dX7_reads_59 : decode cX7_reads 59 = .ok (.putfield 52, 3) := by decide +kernel
theorem dX7_reads_62 : decode cX7_reads 62 = .ok (.iconst 0, 1) := by decide +kernel
theorem dX7_reads_63 : decode cX7_reads 63 = .ok (.ireturn, 1) := by decide +kernel
theorem dX7_reads_64 : decode cX7_reads 64 = .ok (.iinc 3 1, 3) := by decide +kernel
theorem dX7_reads_67 : decode cX7_reads 67 = .ok (.goto (-41), 3) := by decide +kernel
theorem dX7_reads_70 : decode cX7_reads 70 = .ok (.iload_n 2, 1) := by decide +kernel
theorem dX7_reads_71 : decode cX7_reads 71 = .ok (.ifCond .ne 37, 3) := by decide +kernel
theorem dX7_reads_74 : decode cX7_reads 74 = .ok (.aload_n 0, 1) := by decide +kernel
theorem dX7_reads_75 : decode cX7_reads 75 = .ok (.getfield 12, 3) := by decide +kernel
theorem dX7_reads_78 : decode cX7_reads 78 = .ok (.invokevirtual 75, 3) := by decide +kernel
theorem dX7_reads_81 : decode cX7_reads 81 = .ok (.ifCond .eq 18, 3) := by decide +kernel
theorem dX7_reads_84 : decode cX7_reads 84 = .ok (.aload_n 0, 1) := by decide +kernel
theorem dX7_reads_85 : decode cX7_reads 85 = .ok (.getfield 79, 3) := by decide +kernel
theorem dX7_reads_88 : decode cX7_reads 88 = .ok (.aload_n 0, 1) := by decide +kernel
theorem dX7_reads_89 : decode cX7_reads 89 = .ok (.getfield 12, 3) := by decide +kernel
theorem dX7_reads_92 : decode cX7_reads 92 = .ok (.getfield 82, 3) := by decide +kernel
theorem dX7_reads_95 : decode cX7_reads 95 = .ok (.iushr, 1) := by decide +kernel
theorem dX7_reads_96 : decode cX7_reads 96 = .ok (.ifCond .eq 12, 3) := by decide +kernel
theorem dX7_reads_99 : decode cX7_reads 99 = .ok (.aload_n 0, 1) := by decide +kernel
theorem dX7_reads_100 : decode cX7_reads 100 = .ok (.iconst 4, 1) := by decide +kernel
theorem dX7_reads_101 : decode cX7_reads 101 = .ok (.aload_n 1, 1) := by decide +kernel
theorem dX7_reads_102 : decode cX7_reads 102 = .ok (.getfield 85, 3) := by decide +kernel
theorem dX7_reads_105 : decode cX7_reads 105 = .ok (.invokevirtual 90, 3) := by decide +kernel
theorem dX7_reads_108 : decode cX7_reads 108 = .ok (.aload_n 0, 1) := by decide +kernel
theorem dX7_reads_109 : decode cX7_reads 109 = .ok (.getfield 48, 3) := by decide +kernel
theorem dX7_reads_112 : decode cX7_reads 112 = .ok (.ifCond .ne 7, 3) := by decide +kernel
theorem dX7_reads_115 : decode cX7_reads 115 = .ok (.iconst 1, 1) := by decide +kernel
theorem dX7_reads_116 : decode cX7_reads 116 = .ok (.goto 4, 3) := by decide +kernel
theorem dX7_reads_119 : decode cX7_reads 119 = .ok (.iconst 0, 1) := by decide +kernel
theorem dX7_reads_120 : decode cX7_reads 120 = .ok (.ireturn, 1) := by decide +kernel
theorem dX7_clearDrafts_0 : decode cX7_clearDrafts 0 = .ok (.aload_n 0, 1) := by decide +kernel
theorem dX7_clearDrafts_1 : decode cX7_clearDrafts 1 = .ok (.getfield 12, 3) := by decide +kernel
theorem dX7_clearDrafts_4 : decode cX7_clearDrafts 4 = .ok (.invokevirtual 94, 3) := by decide +kernel
theorem dX7_clearDrafts_7 : decode cX7_clearDrafts 7 = .ok (.aload_n 0, 1) := by decide +kernel
theorem dX7_clearDrafts_8 : decode cX7_clearDrafts 8 = .ok (.iconst 0, 1) := by decide +kernel
theorem dX7_clearDrafts_9 : decode cX7_clearDrafts 9 = .ok (.putfield 79, 3) := by decide +kernel
theorem dX7_clearDrafts_12 : decode cX7_clearDrafts 12 = .ok (.aload_n 0, 1) := by decide +kernel
theorem dX7_clearDrafts_13 : decode cX7_clearDrafts 13 = .ok (.getfield 23, 3) := by decide +kernel
theorem dX7_clearDrafts_16 : decode cX7_clearDrafts 16 = .ok (.iconst 0, 1) := by decide +kernel
theorem dX7_clearDrafts_17 : decode cX7_clearDrafts 17 = .ok (.putfield 97, 3) := by decide +kernel
theorem dX7_clearDrafts_20 : decode cX7_clearDrafts 20 = .ok (.aload_n 0, 1) := by decide +kernel
theorem dX7_clearDrafts_21 : decode cX7_clearDrafts 21 = .ok (.getfield 30, 3) := by decide +kernel
theorem dX7_clearDrafts_24 : decode cX7_clearDrafts 24 = .ok (.invokevirtual 100, 3) := by decide +kernel
theorem dX7_clearDrafts_27 : decode cX7_clearDrafts 27 = .ok (.aload_n 0, 1) := by decide +kernel
theorem dX7_clearDrafts_28 : decode cX7_clearDrafts 28 = .ok (.getfield 34, 3) := by decide +kernel
theorem dX7_clearDrafts_31 : decode cX7_clearDrafts 31 = .ok (.iconst 0, 1) := by decide +kernel
theorem dX7_clearDrafts_32 : decode cX7_clearDrafts 32 = .ok (.putfield 97, 3) := by decide +kernel
theorem dX7_clearDrafts_35 : decode cX7_clearDrafts 35 = .ok (.aload_n 0, 1) := by decide +kernel
theorem dX7_clearDrafts_36 : decode cX7_clearDrafts 36 = .ok (.getfield 40, 3) := by decide +kernel
theorem dX7_clearDrafts_39 : decode cX7_clearDrafts 39 = .ok (.invokevirtual 101, 3) := by decide +kernel
theorem dX7_clearDrafts_42 : decode cX7_clearDrafts 42 = .ok (.return_, 1) := by decide +kernel
theorem dX7_blame_0 : decode cX7_blame 0 = .ok (.aload_n 0, 1) := by decide +kernel
theorem dX7_blame_1 : decode cX7_blame 1 = .ok (.getfield 48, 3) := by decide +kernel
theorem dX7_blame_4 : decode cX7_blame 4 = .ok (.ifCond .ne 13, 3) := by decide +kernel
theorem dX7_blame_7 : decode cX7_blame 7 = .ok (.aload_n 0, 1) := by decide +kernel
theorem dX7_blame_8 : decode cX7_blame 8 = .ok (.iload_n 1, 1) := by decide +kernel
theorem dX7_blame_9 : decode cX7_blame 9 = .ok (.putfield 48, 3) := by decide +kernel
theorem dX7_blame_12 : decode cX7_blame 12 = .ok (.aload_n 0, 1) := by decide +kernel
theorem dX7_blame_13 : decode cX7_blame 13 = .ok (.iload_n 2, 1) := by decide +kernel
theorem dX7_blame_14 : decode cX7_blame 14 = .ok (.putfield 52, 3) := by decide +kernel
theorem dX7_blame_17 : decode cX7_blame 17 = .ok (.return_, 1) := by decide +kernel
theorem dX7_readsLine_0 : decode cX7_readsLine 0 = .ok (.aload_n 0, 1) := by decide +kernel
theorem dX7_readsLine_1 : decode cX7_readsLine 1 = .ok (.getfield 65, 3) := by decide +kernel
theorem dX7_readsLine_4 : decode cX7_readsLine 4 = .ok (.iconst 1, 1) := by decide +kernel
theorem dX7_readsLine_5 : decode cX7_readsLine 5 = .ok (.if_icmp .ne 12, 3) := by decide +kernel
theorem dX7_readsLine_8 : decode cX7_readsLine 8 = .ok (.aload_n 0, 1) := by decide +kernel
theorem dX7_readsLine_9 : decode cX7_readsLine 9 = .ok (.aload_n 1, 1) := by decide +kernel
theorem dX7_readsLine_10 : decode cX7_readsLine 10 = .ok (.iload_n 2, 1) := by decide +kernel
theorem dX7_readsLine_11 : decode cX7_readsLine 11 = .ok (.invokevirtual 102, 3) := by decide +kernel
theorem dX7_readsLine_14 : decode cX7_readsLine 14 = .ok (.goto 4, 3) := by decide +kernel
theorem dX7_readsLine_17 : decode cX7_readsLine 17 = .ok (.iconst (-1), 1) := by decide +kernel
theorem dX7_readsLine_18 : decode cX7_readsLine 18 = .ok (.istore_n 3, 1) := by decide +kernel
theorem dX7_readsLine_19 : decode cX7_readsLine 19 = .ok (.iload_n 3, 1) := by decide +kernel
theorem dX7_readsLine_20 : decode cX7_readsLine 20 = .ok (.ifCond .lt 9, 3) := by decide +kernel
theorem dX7_readsLine_23 : decode cX7_readsLine 23 = .ok (.iload_n 3, 1) := by decide +kernel
theorem dX7_readsLine_24 : decode cX7_readsLine 24 = .ok (.bipush 28, 2) := by decide +kernel
theorem dX7_readsLine_26 : decode cX7_readsLine 26 = .ok (.if_icmp .lt 5, 3) := by decide +kernel
theorem dX7_readsLine_29 : decode cX7_readsLine 29 = .ok (.iconst 0, 1) := by decide +kernel
theorem dX7_readsLine_30 : decode cX7_readsLine 30 = .ok (.ireturn, 1) := by decide +kernel
theorem dX7_readsLine_31 : decode cX7_readsLine 31 = .ok (.aload_n 0, 1) := by decide +kernel
theorem dX7_readsLine_32 : decode cX7_readsLine 32 = .ok (.iload_n 3, 1) := by decide +kernel
theorem dX7_readsLine_33 : decode cX7_readsLine 33 = .ok (.invokevirtual 106, 3) := by decide +kernel
theorem dX7_readsLine_36 : decode cX7_readsLine 36 = .ok (.ifCond .eq 12, 3) := by decide +kernel
theorem dX7_readsLine_39 : decode cX7_readsLine 39 = .ok (.aload_n 0, 1) := by decide +kernel
theorem dX7_readsLine_40 : decode cX7_readsLine 40 = .ok (.iconst 3, 1) := by decide +kernel
theorem dX7_readsLine_41 : decode cX7_readsLine 41 = .ok (.aload_n 0, 1) := by decide +kernel
theorem dX7_readsLine_42 : decode cX7_readsLine 42 = .ok (.getfield 72, 3) := by decide +kernel
theorem dX7_readsLine_45 : decode cX7_readsLine 45 = .ok (.invokevirtual 90, 3) := by decide +kernel
theorem dX7_readsLine_48 : decode cX7_readsLine 48 = .ok (.aload_n 0, 1) := by decide +kernel
theorem dX7_readsLine_49 : decode cX7_readsLine 49 = .ok (.aload_n 1, 1) := by decide +kernel
theorem dX7_readsLine_50 : decode cX7_readsLine 50 = .ok (.invokevirtual 61, 3) := by decide +kernel
theorem dX7_readsLine_53 : decode cX7_readsLine 53 = .ok (.iconst 0, 1) := by decide +kernel
theorem dX7_readsLine_54 : decode cX7_readsLine 54 = .ok (.istore 4, 2) := by decide +kernel
theorem dX7_readsLine_56 : decode cX7_readsLine 56 = .ok (.iload 4, 2) := by decide +kernel
theorem dX7_readsLine_58 : decode cX7_readsLine 58 = .ok (.getstatic 110, 3) := by decide +kernel
theorem dX7_readsLine_61 : decode cX7_readsLine 61 = .ok (.iload_n 3, 1) := by decide +kernel
theorem dX7_readsLine_62 : decode cX7_readsLine 62 = .ok (.iaload, 1) := by decide +kernel
theorem dX7_readsLine_63 : decode cX7_readsLine 63 = .ok (.if_icmp .ge 60, 3) := by decide +kernel
theorem dX7_readsLine_66 : decode cX7_readsLine 66 = .ok (.iload 4, 2) := by decide +kernel
theorem dX7_readsLine_68 : decode cX7_readsLine 68 = .ok (.iconst 4, 1) := by decide +kernel
theorem dX7_readsLine_69 : decode cX7_readsLine 69 = .ok (.if_icmp .ge 54, 3) := by decide +kernel
theorem dX7_readsLine_72 : decode cX7_readsLine 72 = .ok (.aload_n 0, 1) := by decide +kernel
theorem dX7_readsLine_73 : decode cX7_readsLine 73 = .ok (.getfield 65, 3) := by decide +kernel
theorem dX7_readsLine_76 : decode cX7_readsLine 76 = .ok (.iconst 2, 1) := by decide +kernel
theorem dX7_readsLine_77 : decode cX7_readsLine 77 = .ok (.if_icmp .eq 5, 3) := by decide +kernel
theorem dX7_readsLine_80 : decode cX7_readsLine 80 = .ok (.iconst 0, 1) := by decide +kernel
theorem dX7_readsLine_81 : decode cX7_readsLine 81 = .ok (.ireturn, 1) := by decide +kernel
theorem dX7_readsLine_82 : decode cX7_readsLine 82 = .ok (.aload_n 0, 1) := by decide +kernel
theorem dX7_readsLine_83 : decode cX7_readsLine 83 = .ok (.getfield 44, 3) := by decide +kernel
theorem dX7_readsLine_86 : decode cX7_readsLine 86 = .ok (.iload 4, 2) := by decide +kernel
theorem dX7_readsLine_88 : decode cX7_readsLine 88 = .ok (.aload_n 0, 1) := by decide +kernel
theorem dX7_readsLine_89 : decode cX7_readsLine 89 = .ok (.getfield 113, 3) := by decide +kernel
theorem dX7_readsLine_92 : decode cX7_readsLine 92 = .ok (.iastore, 1) := by decide +kernel
theorem dX7_readsLine_93 : decode cX7_readsLine 93 = .ok (.aload_n 0, 1) := by decide +kernel
theorem dX7_readsLine_94 : decode cX7_readsLine 94 = .ok (.iload_n 3, 1) := by decide +kernel
theorem dX7_readsLine_95 : decode cX7_readsLine 95 = .ok (.iload 4, 2) := by decide +kernel
theorem dX7_readsLine_97 : decode cX7_readsLine 97 = .ok (.invokevirtual 116, 3) := by decide +kernel
theorem dX7_readsLine_100 : decode cX7_readsLine 100 = .ok (.ifCond .ne 12, 3) := by decide +kernel
theorem dX7_readsLine_103 : decode cX7_readsLine 103 = .ok (.aload_n 0, 1) := by decide +kernel
theorem dX7_readsLine_104 : decode cX7_readsLine 104 = .ok (.iconst 2, 1) := by decide +kernel
theorem dX7_readsLine_105 : decode cX7_readsLine 105 = .ok (.aload_n 0, 1) := by decide +kernel
theorem dX7_readsLine_106 : decode cX7_readsLine 106 = .ok (.getfield 72, 3) := by decide +kernel
theorem dX7_readsLine_109 : decode cX7_readsLine 109 = .ok (.invokevirtual 90, 3) := by decide +kernel
theorem dX7_readsLine_112 : decode cX7_readsLine 112 = .ok (.aload_n 0, 1) := by decide +kernel
theorem dX7_readsLine_113 : decode cX7_readsLine 113 = .ok (.aload_n 1, 1) := by decide +kernel
theorem dX7_readsLine_114 : decode cX7_readsLine 114 = .ok (.invokevirtual 61, 3) := by decide +kernel
theorem dX7_readsLine_117 : decode cX7_readsLine 117 = .ok (.iinc 4 1, 3) := by decide +kernel
theorem dX7_readsLine_120 : decode cX7_readsLine 120 = .ok (.goto (-64), 3) := by decide +kernel
theorem dX7_readsLine_123 : decode cX7_readsLine 123 = .ok (.aload_n 0, 1) := by decide +kernel
theorem dX7_readsLine_124 : decode cX7_readsLine 124 = .ok (.getfield 65, 3) := by decide +kernel
theorem dX7_readsLine_127 : decode cX7_readsLine 127 = .ok (.iconst 3, 1) := by decide +kernel
theorem dX7_readsLine_128 : decode cX7_readsLine 128 = .ok (.if_icmp .eq 5, 3) := by decide +kernel
theorem dX7_readsLine_131 : decode cX7_readsLine 131 = .ok (.iconst 0, 1) := by decide +kernel
theorem dX7_readsLine_132 : decode cX7_readsLine 132 = .ok (.ireturn, 1) := by decide +kernel
theorem dX7_readsLine_133 : decode cX7_readsLine 133 = .ok (.aload_n 0, 1) := by decide +kernel
theorem dX7_readsLine_134 : decode cX7_readsLine 134 = .ok (.aload_n 1, 1) := by decide +kernel
theorem dX7_readsLine_135 : decode cX7_readsLine 135 = .ok (.invokevirtual 61, 3) := by decide +kernel
theorem dX7_readsLine_138 : decode cX7_readsLine 138 = .ok (.aload_n 0, 1) := by decide +kernel
theorem dX7_readsLine_139 : decode cX7_readsLine 139 = .ok (.getfield 48, 3) := by decide +kernel
theorem dX7_readsLine_142 : decode cX7_readsLine 142 = .ok (.ifCond .ne 8, 3) := by decide +kernel
theorem dX7_readsLine_145 : decode cX7_readsLine 145 = .ok (.aload_n 0, 1) := by decide +kernel
theorem dX7_readsLine_146 : decode cX7_readsLine 146 = .ok (.iload_n 3, 1) := by decide +kernel
theorem dX7_readsLine_147 : decode cX7_readsLine 147 = .ok (.invokevirtual 120, 3) := by decide +kernel
theorem dX7_readsLine_150 : decode cX7_readsLine 150 = .ok (.iconst 1, 1) := by decide +kernel
theorem dX7_readsLine_151 : decode cX7_readsLine 151 = .ok (.ireturn, 1) := by decide +kernel
theorem dX7_kindOf_0 : decode cX7_kindOf 0 = .ok (.iload_n 2, 1) := by decide +kernel
theorem dX7_kindOf_1 : decode cX7_kindOf 1 = .ok (.ifCond .lt 8, 3) := by decide +kernel
theorem dX7_kindOf_4 : decode cX7_kindOf 4 = .ok (.iload_n 2, 1) := by decide +kernel
theorem dX7_kindOf_5 : decode cX7_kindOf 5 = .ok (.iconst 5, 1) := by decide +kernel
theorem dX7_kindOf_6 : decode cX7_kindOf 6 = .ok (.if_icmp .lt 5, 3) := by decide +kernel
theorem dX7_kindOf_9 : decode cX7_kindOf 9 = .ok (.iconst (-1), 1) := by decide +kernel
theorem dX7_kindOf_10 : decode cX7_kindOf 10 = .ok (.ireturn, 1) := by decide +kernel
theorem dX7_kindOf_11 : decode cX7_kindOf 11 = .ok (.getstatic 123, 3) := by decide +kernel
theorem dX7_kindOf_14 : decode cX7_kindOf 14 = .ok (.iload_n 2, 1) := by decide +kernel
theorem dX7_kindOf_15 : decode cX7_kindOf 15 = .ok (.iaload, 1) := by decide +kernel
theorem dX7_kindOf_16 : decode cX7_kindOf 16 = .ok (.istore_n 3, 1) := by decide +kernel
theorem dX7_kindOf_17 : decode cX7_kindOf 17 = .ok (.iload_n 3, 1) := by decide +kernel
theorem dX7_kindOf_18 : decode cX7_kindOf 18 = .ok (.getstatic 123, 3) := by decide +kernel
theorem dX7_kindOf_21 : decode cX7_kindOf 21 = .ok (.iload_n 2, 1) := by decide +kernel
theorem dX7_kindOf_22 : decode cX7_kindOf 22 = .ok (.iconst 1, 1) := by decide +kernel
theorem dX7_kindOf_23 : decode cX7_kindOf 23 = .ok (.iadd, 1) := by decide +kernel
theorem dX7_kindOf_24 : decode cX7_kindOf 24 = .ok (.iaload, 1) := by decide +kernel
theorem dX7_kindOf_25 : decode cX7_kindOf 25 = .ok (.if_icmp .ge 23, 3) := by decide +kernel
theorem dX7_kindOf_28 : decode cX7_kindOf 28 = .ok (.aload_n 0, 1) := by decide +kernel
theorem dX7_kindOf_29 : decode cX7_kindOf 29 = .ok (.aload_n 1, 1) := by decide +kernel
theorem dX7_kindOf_30 : decode cX7_kindOf 30 = .ok (.iload_n 3, 1) := by decide +kernel
theorem dX7_kindOf_31 : decode cX7_kindOf 31 = .ok (.invokestatic 126, 3) := by decide +kernel
theorem dX7_kindOf_34 : decode cX7_kindOf 34 = .ok (.invokevirtual 130, 3) := by decide +kernel
theorem dX7_kindOf_37 : decode cX7_kindOf 37 = .ok (.ifCond .eq 5, 3) := by decide +kernel
theorem dX7_kindOf_40 : decode cX7_kindOf 40 = .ok (.iload_n 3, 1) := by decide +kernel
theorem dX7_kindOf_41 : decode cX7_kindOf 41 = .ok (.ireturn, 1) := by decide +kernel
theorem dX7_kindOf_42 : decode cX7_kindOf 42 = .ok (.iinc 3 1, 3) := by decide +kernel
theorem dX7_kindOf_45 : decode cX7_kindOf 45 = .ok (.goto (-28), 3) := by decide +kernel
theorem dX7_kindOf_48 : decode cX7_kindOf 48 = .ok (.iconst (-1), 1) := by decide +kernel
theorem dX7_kindOf_49 : decode cX7_kindOf 49 = .ok (.ireturn, 1) := by decide +kernel
theorem dX7_spells_0 : decode cX7_spells 0 = .ok (.aload_n 2, 1) := by decide +kernel
theorem dX7_spells_1 : decode cX7_spells 1 = .ok (.invokevirtual 134, 3) := by decide +kernel
theorem dX7_spells_4 : decode cX7_spells 4 = .ok (.aload_n 0, 1) := by decide +kernel
theorem dX7_spells_5 : decode cX7_spells 5 = .ok (.getfield 58, 3) := by decide +kernel
theorem dX7_spells_8 : decode cX7_spells 8 = .ok (.aload_n 0, 1) := by decide +kernel
theorem dX7_spells_9 : decode cX7_spells 9 = .ok (.getfield 72, 3) := by decide +kernel
theorem dX7_spells_12 : decode cX7_spells 12 = .ok (.isub, 1) := by decide +kernel
theorem dX7_spells_13 : decode cX7_spells 13 = .ok (.if_icmp .eq 5, 3) := by decide +kernel
theorem dX7_spells_16 : decode cX7_spells 16 = .ok (.iconst 0, 1) := by decide +kernel
theorem dX7_spells_17 : decode cX7_spells 17 = .ok (.ireturn, 1) := by decide +kernel
theorem dX7_spells_18 : decode cX7_spells 18 = .ok (.iconst 0, 1) := by decide +kernel
theorem dX7_spells_19 : decode cX7_spells 19 = .ok (.istore_n 3, 1) := by decide +kernel
theorem dX7_spells_20 : decode cX7_spells 20 = .ok (.iload_n 3, 1) := by decide +kernel
theorem dX7_spells_21 : decode cX7_spells 21 = .ok (.aload_n 2, 1) := by decide +kernel
theorem dX7_spells_22 : decode cX7_spells 22 = .ok (.invokevirtual 134, 3) := by decide +kernel
theorem dX7_spells_25 : decode cX7_spells 25 = .ok (.if_icmp .ge 42, 3) := by decide +kernel
theorem dX7_spells_28 : decode cX7_spells 28 = .ok (.aload_n 0, 1) := by decide +kernel
theorem dX7_spells_29 : decode cX7_spells 29 = .ok (.getfield 72, 3) := by decide +kernel
theorem dX7_spells_32 : decode cX7_spells 32 = .ok (.iload_n 3, 1) := by decide +kernel
theorem dX7_spells_33 : decode cX7_spells 33 = .ok (.iadd, 1) := by decide +kernel
theorem dX7_spells_34 : decode cX7_spells 34 = .ok (.sipush 600, 3) := by decide +kernel
theorem dX7_spells_37 : decode cX7_spells 37 = .ok (.if_icmp .ge 22, 3) := by decide +kernel
theorem dX7_spells_40 : decode cX7_spells 40 = .ok (.aload_n 1, 1) := by decide +kernel
theorem dX7_spells_41 : decode cX7_spells 41 = .ok (.getfield 139, 3) := by decide +kernel
theorem dX7_spells_44 : decode cX7_spells 44 = .ok (.aload_n 0, 1) := by decide +kernel
theorem dX7_spells_45 : decode cX7_spells 45 = .ok (.getfield 72, 3) := by decide +kernel
theorem dX7_spells_48 : decode cX7_spells 48 = .ok (.iload_n 3, 1) := by decide +kernel
theorem dX7_spells_49 : decode cX7_spells 49 = .ok (.iadd, 1) := by decide +kernel
theorem dX7_spells_50 : decode cX7_spells 50 = .ok (.baload, 1) := by decide +kernel
theorem dX7_spells_51 : decode cX7_spells 51 = .ok (.aload_n 2, 1) := by decide +kernel
theorem dX7_spells_52 : decode cX7_spells 52 = .ok (.iload_n 3, 1) := by decide +kernel
theorem dX7_spells_53 : decode cX7_spells 53 = .ok (.invokevirtual 143, 3) := by decide +kernel
theorem dX7_spells_56 : decode cX7_spells 56 = .ok (.if_icmp .eq 5, 3) := by decide +kernel
theorem dX7_spells_59 : decode cX7_spells 59 = .ok (.iconst 0, 1) := by decide +kernel
theorem dX7_spells_60 : decode cX7_spells 60 = .ok (.ireturn, 1) := by decide +kernel
theorem dX7_spells_61 : decode cX7_spells 61 = .ok (.iinc 3 1, 3) := by decide +kernel
theorem dX7_spells_64 : decode cX7_spells 64 = .ok (.goto (-44), 3) := by decide +kernel
theorem dX7_spells_67 : decode cX7_spells 67 = .ok (.iconst 1, 1) := by decide +kernel
theorem dX7_spells_68 : decode cX7_spells 68 = .ok (.ireturn, 1) := by decide +kernel
theorem dX7_canBe_0 : decode cX7_canBe 0 = .ok (.iload_n 1, 1) := by decide +kernel
theorem dX7_canBe_1 : decode cX7_canBe 1 = .ok (.iconst 4, 1) := by decide +kernel
theorem dX7_canBe_2 : decode cX7_canBe 2 = .ok (.imul, 1) := by decide +kernel
theorem dX7_canBe_3 : decode cX7_canBe 3 = .ok (.iload_n 2, 1) := by decide +kernel
theorem dX7_canBe_4 : decode cX7_canBe 4 = .ok (.iadd, 1) := by decide +kernel
theorem dX7_canBe_5 : decode cX7_canBe 5 = .ok (.istore_n 3, 1) := by decide +kernel
theorem dX7_canBe_6 : decode cX7_canBe 6 = .ok (.iload_n 3, 1) := by decide +kernel
theorem dX7_canBe_7 : decode cX7_canBe 7 = .ok (.ifCond .lt 19, 3) := by decide +kernel
theorem dX7_canBe_10 : decode cX7_canBe 10 = .ok (.iload_n 3, 1) := by decide +kernel
theorem dX7_canBe_11 : decode cX7_canBe 11 = .ok (.getstatic 147, 3) := by decide +kernel
theorem dX7_canBe_14 : decode cX7_canBe 14 = .ok (.arraylength, 1) := by decide +kernel
theorem dX7_canBe_15 : decode cX7_canBe 15 = .ok (.if_icmp .ge 11, 3) := by decide +kernel
theorem dX7_canBe_18 : decode cX7_canBe 18 = .ok (.iload_n 3, 1) := by decide +kernel
theorem dX7_canBe_19 : decode cX7_canBe 19 = .ok (.getstatic 150, 3) := by decide +kernel
theorem dX7_canBe_22 : decode cX7_canBe 22 = .ok (.arraylength, 1) := by decide +kernel
theorem dX7_canBe_23 : decode cX7_canBe 23 = .ok (.if_icmp .lt 5, 3) := by decide +kernel
theorem dX7_canBe_26 : decode cX7_canBe 26 = .ok (.iconst 0, 1) := by decide +kernel
theorem dX7_canBe_27 : decode cX7_canBe 27 = .ok (.ireturn, 1) := by decide +kernel
theorem dX7_canBe_28 : decode cX7_canBe 28 = .ok (.iload_n 1, 1) := by decide +kernel
theorem dX7_canBe_29 : decode cX7_canBe 29 = .ok (.iconst 3, 1) := by decide +kernel
theorem dX7_canBe_30 : decode cX7_canBe 30 = .ok (.if_icmp .eq 8, 3) := by decide +kernel
theorem dX7_canBe_33 : decode cX7_canBe 33 = .ok (.iload_n 1, 1) := by decide +kernel
theorem dX7_canBe_34 : decode cX7_canBe 34 = .ok (.iconst 4, 1) := by decide +kernel
theorem dX7_canBe_35 : decode cX7_canBe 35 = .ok (.if_icmp .ne 25, 3) := by decide +kernel
theorem dX7_canBe_38 : decode cX7_canBe 38 = .ok (.iload_n 2, 1) := by decide +kernel
theorem dX7_canBe_39 : decode cX7_canBe 39 = .ok (.iconst 1, 1) := by decide +kernel
theorem dX7_canBe_40 : decode cX7_canBe 40 = .ok (.if_icmp .ne 20, 3) := by decide +kernel
theorem dX7_canBe_43 : decode cX7_canBe 43 = .ok (.aload_n 0, 1) := by decide +kernel
theorem dX7_canBe_44 : decode cX7_canBe 44 = .ok (.getfield 44, 3) := by decide +kernel
theorem dX7_canBe_47 : decode cX7_canBe 47 = .ok (.iconst 1, 1) := by decide +kernel
theorem dX7_canBe_48 : decode cX7_canBe 48 = .ok (.iaload, 1) := by decide +kernel
theorem dX7_canBe_49 : decode cX7_canBe 49 = .ok (.aload_n 0, 1) := by decide +kernel
theorem dX7_canBe_50 : decode cX7_canBe 50 = .ok (.getfield 44, 3) := by decide +kernel
theorem dX7_canBe_53 : decode cX7_canBe 53 = .ok (.iconst 0, 1) := by decide +kernel
theorem dX7_canBe_54 : decode cX7_canBe 54 = .ok (.iaload, 1) := by decide +kernel
theorem dX7_canBe_55 : decode cX7_canBe 55 = .ok (.if_icmp .ne 5, 3) := by decide +kernel
theorem dX7_canBe_58 : decode cX7_canBe 58 = .ok (.iconst 0, 1) := by decide +kernel
theorem dX7_canBe_59 : decode cX7_canBe 59 = .ok (.ireturn, 1) := by decide +kernel
theorem dX7_canBe_60 : decode cX7_canBe 60 = .ok (.aload_n 0, 1) := by decide +kernel
theorem dX7_canBe_61 : decode cX7_canBe 61 = .ok (.getfield 44, 3) := by decide +kernel
theorem dX7_canBe_64 : decode cX7_canBe 64 = .ok (.iload_n 2, 1) := by decide +kernel
theorem dX7_canBe_65 : decode cX7_canBe 65 = .ok (.iaload, 1) := by decide +kernel
theorem dX7_canBe_66 : decode cX7_canBe 66 = .ok (.getstatic 147, 3) := by decide +kernel
theorem dX7_canBe_69 : decode cX7_canBe 69 = .ok (.iload_n 3, 1) := by decide +kernel
theorem dX7_canBe_70 : decode cX7_canBe 70 = .ok (.iaload, 1) := by decide +kernel
theorem dX7_canBe_71 : decode cX7_canBe 71 = .ok (.if_icmp .lt 21, 3) := by decide +kernel
theorem dX7_canBe_74 : decode cX7_canBe 74 = .ok (.aload_n 0, 1) := by decide +kernel
theorem dX7_canBe_75 : decode cX7_canBe 75 = .ok (.getfield 44, 3) := by decide +kernel
theorem dX7_canBe_78 : decode cX7_canBe 78 = .ok (.iload_n 2, 1) := by decide +kernel
theorem dX7_canBe_79 : decode cX7_canBe 79 = .ok (.iaload, 1) := by decide +kernel
theorem dX7_canBe_80 : decode cX7_canBe 80 = .ok (.getstatic 150, 3) := by decide +kernel
theorem dX7_canBe_83 : decode cX7_canBe 83 = .ok (.iload_n 3, 1) := by decide +kernel
theorem dX7_canBe_84 : decode cX7_canBe 84 = .ok (.iaload, 1) := by decide +kernel
theorem dX7_canBe_85 : decode cX7_canBe 85 = .ok (.if_icmp .gt 7, 3) := by decide +kernel
theorem dX7_canBe_88 : decode cX7_canBe 88 = .ok (.iconst 1, 1) := by decide +kernel
theorem dX7_canBe_89 : decode cX7_canBe 89 = .ok (.goto 4, 3) := by decide +kernel
theorem dX7_canBe_92 : decode cX7_canBe 92 = .ok (.iconst 0, 1) := by decide +kernel
theorem dX7_canBe_93 : decode cX7_canBe 93 = .ok (.ireturn, 1) := by decide +kernel
theorem dX7_isFull_0 : decode cX7_isFull 0 = .ok (.iload_n 1, 1) := by decide +kernel
theorem dX7_isFull_1 : decode cX7_isFull 1 = .ok (.ifCond .ne 20, 3) := by decide +kernel
theorem dX7_isFull_4 : decode cX7_isFull 4 = .ok (.aload_n 0, 1) := by decide +kernel
theorem dX7_isFull_5 : decode cX7_isFull 5 = .ok (.getfield 12, 3) := by decide +kernel
theorem dX7_isFull_8 : decode cX7_isFull 8 = .ok (.getfield 153, 3) := by decide +kernel
theorem dX7_isFull_11 : decode cX7_isFull 11 = .ok (.iconst 5, 1) := by decide +kernel
theorem dX7_isFull_12 : decode cX7_isFull 12 = .ok (.if_icmp .lt 7, 3) := by decide +kernel
theorem dX7_isFull_15 : decode cX7_isFull 15 = .ok (.iconst 1, 1) := by decide +kernel
theorem dX7_isFull_16 : decode cX7_isFull 16 = .ok (.goto 4, 3) := by decide +kernel
theorem dX7_isFull_19 : decode cX7_isFull 19 = .ok (.iconst 0, 1) := by decide +kernel
theorem dX7_isFull_20 : decode cX7_isFull 20 = .ok (.ireturn, 1) := by decide +kernel
theorem dX7_isFull_21 : decode cX7_isFull 21 = .ok (.iload_n 1, 1) := by decide +kernel
theorem dX7_isFull_22 : decode cX7_isFull 22 = .ok (.iconst 1, 1) := by decide +kernel
theorem dX7_isFull_23 : decode cX7_isFull 23 = .ok (.if_icmp .ne 21, 3) := by decide +kernel
theorem dX7_isFull_26 : decode cX7_isFull 26 = .ok (.aload_n 0, 1) := by decide +kernel
theorem dX7_isFull_27 : decode cX7_isFull 27 = .ok (.getfield 12, 3) := by decide +kernel
theorem dX7_isFull_30 : decode cX7_isFull 30 = .ok (.getfield 82, 3) := by decide +kernel
theorem dX7_isFull_33 : decode cX7_isFull 33 = .ok (.bipush 8, 2) := by decide +kernel
theorem dX7_isFull_35 : decode cX7_isFull 35 = .ok (.if_icmp .lt 7, 3) := by decide +kernel
theorem dX7_isFull_38 : decode cX7_isFull 38 = .ok (.iconst 1, 1) := by decide +kernel
theorem dX7_isFull_39 : decode cX7_isFull 39 = .ok (.goto 4, 3) := by decide +kernel
theorem dX7_isFull_42 : decode cX7_isFull 42 = .ok (.iconst 0, 1) := by decide +kernel
theorem dX7_isFull_43 : decode cX7_isFull 43 = .ok (.ireturn, 1) := by decide +kernel
theorem dX7_isFull_44 : decode cX7_isFull 44 = .ok (.iload_n 1, 1) := by decide +kernel
theorem dX7_isFull_45 : decode cX7_isFull 45 = .ok (.bipush 12, 2) := by decide +kernel
theorem dX7_isFull_47 : decode cX7_isFull 47 = .ok (.if_icmp .lt 17, 3) := by decide +kernel
theorem dX7_isFull_50 : decode cX7_isFull 50 = .ok (.iload_n 1, 1) := by decide +kernel
theorem dX7_isFull_51 : decode cX7_isFull 51 = .ok (.bipush 17, 2) := by decide +kernel
theorem dX7_isFull_53 : decode cX7_isFull 53 = .ok (.if_icmp .gt 11, 3) := by decide +kernel
theorem dX7_isFull_56 : decode cX7_isFull 56 = .ok (.aload_n 0, 1) := by decide +kernel
theorem dX7_isFull_57 : decode cX7_isFull 57 = .ok (.getfield 23, 3) := by decide +kernel
theorem dX7_isFull_60 : decode cX7_isFull 60 = .ok (.invokevirtual 156, 3) := by decide +kernel
theorem dX7_isFull_63 : decode cX7_isFull 63 = .ok (.ireturn, 1) := by decide +kernel
theorem dX7_isFull_64 : decode cX7_isFull 64 = .ok (.iload_n 1, 1) := by decide +kernel
theorem dX7_isFull_65 : decode cX7_isFull 65 = .ok (.bipush 18, 2) := by decide +kernel
theorem dX7_isFull_67 : decode cX7_isFull 67 = .ok (.if_icmp .lt 20, 3) := by decide +kernel
theorem dX7_isFull_70 : decode cX7_isFull 70 = .ok (.iload_n 1, 1) := by decide +kernel
theorem dX7_isFull_71 : decode cX7_isFull 71 = .ok (.bipush 21, 2) := by decide +kernel
theorem dX7_isFull_73 : decode cX7_isFull 73 = .ok (.if_icmp .gt 14, 3) := by decide +kernel
theorem dX7_isFull_76 : decode cX7_isFull 76 = .ok (.aload_n 0, 1) := by decide +kernel
theorem dX7_isFull_77 : decode cX7_isFull 77 = .ok (.getfield 30, 3) := by decide +kernel
theorem dX7_isFull_80 : decode cX7_isFull 80 = .ok (.getfield 158, 3) := by decide +kernel
theorem dX7_isFull_83 : decode cX7_isFull 83 = .ok (.invokevirtual 156, 3) := by decide +kernel
theorem dX7_isFull_86 : decode cX7_isFull 86 = .ok (.ireturn, 1) := by decide +kernel
theorem dX7_isFull_87 : decode cX7_isFull 87 = .ok (.iload_n 1, 1) := by decide +kernel
theorem dX7_isFull_88 : decode cX7_isFull 88 = .ok (.bipush 23, 2) := by decide +kernel
theorem dX7_isFull_90 : decode cX7_isFull 90 = .ok (.if_icmp .ne 11, 3) := by decide +kernel
theorem dX7_isFull_93 : decode cX7_isFull 93 = .ok (.aload_n 0, 1) := by decide +kernel
theorem dX7_isFull_94 : decode cX7_isFull 94 = .ok (.getfield 34, 3) := by decide +kernel
theorem dX7_isFull_97 : decode cX7_isFull 97 = .ok (.invokevirtual 156, 3) := by decide +kernel
theorem dX7_isFull_100 : decode cX7_isFull 100 = .ok (.ireturn, 1) := by decide +kernel
theorem dX7_isFull_101 : decode cX7_isFull 101 = .ok (.iload_n 1, 1) := by decide +kernel
theorem dX7_isFull_102 : decode cX7_isFull 102 = .ok (.bipush 24, 2) := by decide +kernel
theorem dX7_isFull_104 : decode cX7_isFull 104 = .ok (.if_icmp .eq 9, 3) := by decide +kernel
theorem dX7_isFull_107 : decode cX7_isFull 107 = .ok (.iload_n 1, 1) := by decide +kernel
theorem dX7_isFull_108 : decode cX7_isFull 108 = .ok (.bipush 25, 2) := by decide +kernel
theorem dX7_isFull_110 : decode cX7_isFull 110 = .ok (.if_icmp .ne 14, 3) := by decide +kernel
theorem dX7_isFull_113 : decode cX7_isFull 113 = .ok (.aload_n 0, 1) := by decide +kernel
theorem dX7_isFull_114 : decode cX7_isFull 114 = .ok (.getfield 40, 3) := by decide +kernel
theorem dX7_isFull_117 : decode cX7_isFull 117 = .ok (.getfield 161, 3) := by decide +kernel
theorem dX7_isFull_120 : decode cX7_isFull 120 = .ok (.invokevirtual 156, 3) := by decide +kernel
theorem dX7_isFull_123 : decode cX7_isFull 123 = .ok (.ireturn, 1) := by decide +kernel
theorem dX7_isFull_124 : decode cX7_isFull 124 = .ok (.iload_n 1, 1) := by decide +kernel
theorem dX7_isFull_125 : decode cX7_isFull 125 = .ok (.bipush 26, 2) := by decide +kernel
theorem dX7_isFull_127 : decode cX7_isFull 127 = .ok (.if_icmp .eq 9, 3) := by decide +kernel
theorem dX7_isFull_130 : decode cX7_isFull 130 = .ok (.iload_n 1, 1) := by decide +kernel
theorem dX7_isFull_131 : decode cX7_isFull 131 = .ok (.bipush 27, 2) := by decide +kernel
theorem dX7_isFull_133 : decode cX7_isFull 133 = .ok (.if_icmp .ne 20, 3) := by decide +kernel
theorem dX7_isFull_136 : decode cX7_isFull 136 = .ok (.aload_n 0, 1) := by decide +kernel
theorem dX7_isFull_137 : decode cX7_isFull 137 = .ok (.getfield 40, 3) := by decide +kernel
theorem dX7_isFull_140 : decode cX7_isFull 140 = .ok (.getfield 164, 3) := by decide +kernel
theorem dX7_isFull_143 : decode cX7_isFull 143 = .ok (.invokevirtual 156, 3) := by decide +kernel
theorem dX7_isFull_146 : decode cX7_isFull 146 = .ok (.ifCond .eq 7, 3) := by decide +kernel
theorem dX7_isFull_149 : decode cX7_isFull 149 = .ok (.iconst 1, 1) := by decide +kernel
theorem dX7_isFull_150 : decode cX7_isFull 150 = .ok (.goto 4, 3) := by decide +kernel
theorem dX7_isFull_153 : decode cX7_isFull 153 = .ok (.iconst 0, 1) := by decide +kernel
theorem dX7_isFull_154 : decode cX7_isFull 154 = .ok (.ireturn, 1) := by decide +kernel
theorem dX7_keep_0 : decode cX7_keep 0 = .ok (.iload_n 1, 1) := by decide +kernel
theorem dX7_keep_1 : decode cX7_keep 1 = .ok (.bipush 12, 2) := by decide +kernel
theorem dX7_keep_3 : decode cX7_keep 3 = .ok (.if_icmp .ge 11, 3) := by decide +kernel
theorem dX7_keep_6 : decode cX7_keep 6 = .ok (.aload_n 0, 1) := by decide +kernel
theorem dX7_keep_7 : decode cX7_keep 7 = .ok (.iload_n 1, 1) := by decide +kernel
theorem dX7_keep_8 : decode cX7_keep 8 = .ok (.invokevirtual 167, 3) := by decide +kernel
theorem dX7_keep_11 : decode cX7_keep 11 = .ok (.goto 264, 3) := by decide +kernel
theorem dX7_keep_14 : decode cX7_keep 14 = .ok (.iload_n 1, 1) := by decide +kernel
theorem dX7_keep_15 : decode cX7_keep 15 = .ok (.bipush 17, 2) := by decide +kernel
theorem dX7_keep_17 : decode cX7_keep 17 = .ok (.if_icmp .gt 52, 3) := by decide +kernel
theorem dX7_keep_20 : decode cX7_keep 20 = .ok (.getstatic 110, 3) := by decide +kernel
theorem dX7_keep_23 : decode cX7_keep 23 = .ok (.iload_n 1, 1) := by decide +kernel
theorem dX7_keep_24 : decode cX7_keep 24 = .ok (.iaload, 1) := by decide +kernel
theorem dX7_keep_25 : decode cX7_keep 25 = .ok (.istore_n 2, 1) := by decide +kernel
theorem dX7_keep_26 : decode cX7_keep 26 = .ok (.aload_n 0, 1) := by decide +kernel
theorem dX7_keep_27 : decode cX7_keep 27 = .ok (.getfield 23, 3) := by decide +kernel
theorem dX7_keep_30 : decode cX7_keep 30 = .ok (.iload_n 1, 1) := by decide +kernel
theorem dX7_keep_31 : decode cX7_keep 31 = .ok (.bipush 12, 2) := by decide +kernel
theorem dX7_keep_33 : decode cX7_keep 33 = .ok (.isub, 1) := by decide +kernel
theorem dX7_keep_34 : decode cX7_keep 34 = .ok (.iload_n 2, 1) := by decide +kernel
theorem dX7_keep_35 : decode cX7_keep 35 = .ok (.ifCond .le 12, 3) := by decide +kernel
theorem dX7_keep_38 : decode cX7_keep 38 = .ok (.aload_n 0, 1) := by decide +kernel
theorem dX7_keep_39 : decode cX7_keep 39 = .ok (.getfield 44, 3) := by decide +kernel
theorem dX7_keep_42 : decode cX7_keep 42 = .ok (.iconst 0, 1) := by decide +kernel
theorem dX7_keep_43 : decode cX7_keep 43 = .ok (.iaload, 1) := by decide +kernel
theorem dX7_keep_44 : decode cX7_keep 44 = .ok (.goto 4, 3) := by decide +kernel
theorem dX7_keep_47 : decode cX7_keep 47 = .ok (.iconst (-1), 1) := by decide +kernel
theorem dX7_keep_48 : decode cX7_keep 48 = .ok (.iload_n 2, 1) := by decide +kernel
theorem dX7_keep_49 : decode cX7_keep 49 = .ok (.iconst 1, 1) := by decide +kernel
theorem dX7_keep_50 : decode cX7_keep 50 = .ok (.if_icmp .le 12, 3) := by decide +kernel
theorem dX7_keep_53 : decode cX7_keep 53 = .ok (.aload_n 0, 1) := by decide +kernel
theorem dX7_keep_54 : decode cX7_keep 54 = .ok (.getfield 44, 3) := by decide +kernel
theorem dX7_keep_57 : decode cX7_keep 57 = .ok (.iconst 1, 1) := by decide +kernel
theorem dX7_keep_58 : decode cX7_keep 58 = .ok (.iaload, 1) := by decide +kernel
theorem dX7_keep_59 : decode cX7_keep 59 = .ok (.goto 4, 3) := by decide +kernel
theorem dX7_keep_62 : decode cX7_keep 62 = .ok (.iconst (-1), 1) := by decide +kernel
theorem dX7_keep_63 : decode cX7_keep 63 = .ok (.invokevirtual 170, 3) := by decide +kernel
theorem dX7_keep_66 : decode cX7_keep 66 = .ok (.goto 209, 3) := by decide +kernel
theorem dX7_keep_69 : decode cX7_keep 69 = .ok (.iload_n 1, 1) := by decide +kernel
theorem dX7_keep_70 : decode cX7_keep 70 = .ok (.bipush 18, 2) := by decide +kernel
theorem dX7_keep_72 : decode cX7_keep 72 = .ok (.if_icmp .ne 29, 3) := by decide +kernel
theorem dX7_keep_75 : decode cX7_keep 75 = .ok (.aload_n 0, 1) := by decide +kernel
theorem dX7_keep_76 : decode cX7_keep 76 = .ok (.getfield 30, 3) := by decide +kernel
theorem dX7_keep_79 : decode cX7_keep 79 = .ok (.getfield 158, 3) := by decide +kernel
theorem dX7_keep_82 : decode cX7_keep 82 = .ok (.iconst 0, 1) := by decide +kernel
theorem dX7_keep_83 : decode cX7_keep 83 = .ok (.aload_n 0, 1) := by decide +kernel
theorem dX7_keep_84 : decode cX7_keep 84 = .ok (.getfield 44, 3) := by decide +kernel
theorem dX7_keep_87 : decode cX7_keep 87 = .ok (.iconst 0, 1) := by decide +kernel
theorem dX7_keep_88 : decode cX7_keep 88 = .ok (.iaload, 1) := by decide +kernel
theorem dX7_keep_89 : decode cX7_keep 89 = .ok (.aload_n 0, 1) := by decide +kernel
theorem dX7_keep_90 : decode cX7_keep 90 = .ok (.getfield 44, 3) := by decide +kernel
theorem dX7_keep_93 : decode cX7_keep 93 = .ok (.iconst 1, 1) := by decide +kernel
theorem dX7_keep_94 : decode cX7_keep 94 = .ok (.iaload, 1) := by decide +kernel
theorem dX7_keep_95 : decode cX7_keep 95 = .ok (.invokevirtual 170, 3) := by decide +kernel
theorem dX7_keep_98 : decode cX7_keep 98 = .ok (.goto 177, 3) := by decide +kernel
theorem dX7_keep_101 : decode cX7_keep 101 = .ok (.iload_n 1, 1) := by decide +kernel
theorem dX7_keep_102 : decode cX7_keep 102 = .ok (.bipush 21, 2) := by decide +kernel
theorem dX7_keep_104 : decode cX7_keep 104 = .ok (.if_icmp .gt 27, 3) := by decide +kernel
theorem dX7_keep_107 : decode cX7_keep 107 = .ok (.aload_n 0, 1) := by decide +kernel
theorem dX7_keep_108 : decode cX7_keep 108 = .ok (.getfield 30, 3) := by decide +kernel
theorem dX7_keep_111 : decode cX7_keep 111 = .ok (.getfield 158, 3) := by decide +kernel
theorem dX7_keep_114 : decode cX7_keep 114 = .ok (.iload_n 1, 1) := by decide +kernel
theorem dX7_keep_115 : decode cX7_keep 115 = .ok (.bipush 18, 2) := by decide +kernel
theorem dX7_keep_117 : decode cX7_keep 117 = .ok (.isub, 1) := by decide +kernel
theorem dX7_keep_118 : decode cX7_keep 118 = .ok (.iconst (-1), 1) := by decide +kernel
theorem dX7_keep_119 : decode cX7_keep 119 = .ok (.aload_n 0, 1) := by decide +kernel
theorem dX7_keep_120 : decode cX7_keep 120 = .ok (.getfield 44, 3) := by decide +kernel
theorem dX7_keep_123 : decode cX7_keep 123 = .ok (.iconst 0, 1) := by decide +kernel
theorem dX7_keep_124 : decode cX7_keep 124 = .ok (.iaload, 1) := by decide +kernel
theorem dX7_keep_125 : decode cX7_keep 125 = .ok (.invokevirtual 170, 3) := by decide +kernel
theorem dX7_keep_128 : decode cX7_keep 128 = .ok (.goto 147, 3) := by decide +kernel
theorem dX7_keep_131 : decode cX7_keep 131 = .ok (.iload_n 1, 1) := by decide +kernel
theorem dX7_keep_132 : decode cX7_keep 132 = .ok (.bipush 22, 2) := by decide +kernel
theorem dX7_keep_134 : decode cX7_keep 134 = .ok (.if_icmp .ne 46, 3) := by decide +kernel
theorem dX7_keep_137 : decode cX7_keep 137 = .ok (.aload_n 0, 1) := by decide +kernel
theorem dX7_keep_138 : decode cX7_keep 138 = .ok (.getfield 44, 3) := by decide +kernel
theorem dX7_keep_141 : decode cX7_keep 141 = .ok (.iconst 0, 1) := by decide +kernel
theorem dX7_keep_142 : decode cX7_keep 142 = .ok (.iaload, 1) := by decide +kernel
theorem dX7_keep_143 : decode cX7_keep 143 = .ok (.ifCond .lt 132, 3) := by decide +kernel
theorem dX7_keep_146 : decode cX7_keep 146 = .ok (.aload_n 0, 1) := by decide +kernel
theorem dX7_keep_147 : decode cX7_keep 147 = .ok (.getfield 44, 3) := by decide +kernel
theorem dX7_keep_150 : decode cX7_keep 150 = .ok (.iconst 0, 1) := by decide +kernel
theorem dX7_keep_151 : decode cX7_keep 151 = .ok (.iaload, 1) := by decide +kernel
theorem dX7_keep_152 : decode cX7_keep 152 = .ok (.bipush 8, 2) := by decide +kernel
theorem dX7_keep_154 : decode cX7_keep 154 = .ok (.if_icmp .ge 121, 3) := by decide +kernel
theorem dX7_keep_157 : decode cX7_keep 157 = .ok (.aload_n 0, 1) := by decide +kernel
theorem dX7_keep_158 : decode cX7_keep 158 = .ok (.getfield 30, 3) := by decide +kernel
theorem dX7_keep_161 : decode cX7_keep 161 = .ok (.getfield 174, 3) := by decide +kernel
theorem dX7_keep_164 : decode cX7_keep 164 = .ok (.aload_n 0, 1) := by decide +kernel
theorem dX7_keep_165 : decode cX7_keep 165 = .ok (.getfield 44, 3) := by decide +kernel
theorem dX7_keep_168 : decode cX7_keep 168 = .ok (.iconst 0, 1) := by decide +kernel
theorem dX7_keep_169 : decode cX7_keep 169 = .ok (.iaload, 1) := by decide +kernel
theorem dX7_keep_170 : decode cX7_keep 170 = .ok (.aload_n 0, 1) := by decide +kernel
theorem dX7_keep_171 : decode cX7_keep 171 = .ok (.getfield 44, 3) := by decide +kernel
theorem dX7_keep_174 : decode cX7_keep 174 = .ok (.iconst 1, 1) := by decide +kernel
theorem dX7_keep_175 : decode cX7_keep 175 = .ok (.iaload, 1) := by decide +kernel
theorem dX7_keep_176 : decode cX7_keep 176 = .ok (.iastore, 1) := by decide +kernel
theorem dX7_keep_177 : decode cX7_keep 177 = .ok (.goto 98, 3) := by decide +kernel
theorem dX7_keep_180 : decode cX7_keep 180 = .ok (.iload_n 1, 1) := by decide +kernel
theorem dX7_keep_181 : decode cX7_keep 181 = .ok (.bipush 23, 2) := by decide +kernel
theorem dX7_keep_183 : decode cX7_keep 183 = .ok (.if_icmp .ne 26, 3) := by decide +kernel
theorem dX7_keep_186 : decode cX7_keep 186 = .ok (.aload_n 0, 1) := by decide +kernel
theorem dX7_keep_187 : decode cX7_keep 187 = .ok (.getfield 34, 3) := by decide +kernel
theorem dX7_keep_190 : decode cX7_keep 190 = .ok (.iconst 0, 1) := by decide +kernel
theorem dX7_keep_191 : decode cX7_keep 191 = .ok (.aload_n 0, 1) := by decide +kernel
theorem dX7_keep_192 : decode cX7_keep 192 = .ok (.getfield 44, 3) := by decide +kernel
theorem dX7_keep_195 : decode cX7_keep 195 = .ok (.iconst 0, 1) := by decide +kernel
theorem dX7_keep_196 : decode cX7_keep 196 = .ok (.iaload, 1) := by decide +kernel
theorem dX7_keep_197 : decode cX7_keep 197 = .ok (.aload_n 0, 1) := by decide +kernel
theorem dX7_keep_198 : decode cX7_keep 198 = .ok (.getfield 44, 3) := by decide +kernel
theorem dX7_keep_201 : decode cX7_keep 201 = .ok (.iconst 1, 1) := by decide +kernel
theorem dX7_keep_202 : decode cX7_keep 202 = .ok (.iaload, 1) := by decide +kernel
theorem dX7_keep_203 : decode cX7_keep 203 = .ok (.invokevirtual 170, 3) := by decide +kernel
theorem dX7_keep_206 : decode cX7_keep 206 = .ok (.goto 69, 3) := by decide +kernel
theorem dX7_keep_209 : decode cX7_keep 209 = .ok (.iload_n 1, 1) := by decide +kernel
theorem dX7_keep_210 : decode cX7_keep 210 = .ok (.bipush 24, 2) := by decide +kernel
theorem dX7_keep_212 : decode cX7_keep 212 = .ok (.if_icmp .eq 9, 3) := by decide +kernel
theorem dX7_keep_215 : decode cX7_keep 215 = .ok (.iload_n 1, 1) := by decide +kernel
theorem dX7_keep_216 : decode cX7_keep 216 = .ok (.bipush 25, 2) := by decide +kernel
theorem dX7_keep_218 : decode cX7_keep 218 = .ok (.if_icmp .ne 34, 3) := by decide +kernel
theorem dX7_keep_221 : decode cX7_keep 221 = .ok (.aload_n 0, 1) := by decide +kernel
theorem dX7_keep_222 : decode cX7_keep 222 = .ok (.getfield 40, 3) := by decide +kernel
theorem dX7_keep_225 : decode cX7_keep 225 = .ok (.getfield 161, 3) := by decide +kernel
theorem dX7_keep_228 : decode cX7_keep 228 = .ok (.iconst 0, 1) := by decide +kernel
theorem dX7_keep_229 : decode cX7_keep 229 = .ok (.aload_n 0, 1) := by decide +kernel
theorem dX7_keep_230 : decode cX7_keep 230 = .ok (.getfield 44, 3) := by decide +kernel
theorem dX7_keep_233 : decode cX7_keep 233 = .ok (.iconst 0, 1) := by decide +kernel
theorem dX7_keep_234 : decode cX7_keep 234 = .ok (.iaload, 1) := by decide +kernel
theorem dX7_keep_235 : decode cX7_keep 235 = .ok (.iload_n 1, 1) := by decide +kernel
theorem dX7_keep_236 : decode cX7_keep 236 = .ok (.bipush 24, 2) := by decide +kernel
theorem dX7_keep_238 : decode cX7_keep 238 = .ok (.if_icmp .ne 7, 3) := by decide +kernel
theorem dX7_keep_241 : decode cX7_keep 241 = .ok (.iconst 1, 1) := by decide +kernel
theorem dX7_keep_242 : decode cX7_keep 242 = .ok (.goto 4, 3) := by decide +kernel
theorem dX7_keep_245 : decode cX7_keep 245 = .ok (.iconst 0, 1) := by decide +kernel
theorem dX7_keep_246 : decode cX7_keep 246 = .ok (.invokevirtual 170, 3) := by decide +kernel
theorem dX7_keep_249 : decode cX7_keep 249 = .ok (.goto 26, 3) := by decide +kernel
theorem dX7_keep_252 : decode cX7_keep 252 = .ok (.aload_n 0, 1) := by decide +kernel
theorem dX7_keep_253 : decode cX7_keep 253 = .ok (.getfield 40, 3) := by decide +kernel
theorem dX7_keep_256 : decode cX7_keep 256 = .ok (.getfield 164, 3) := by decide +kernel
theorem dX7_keep_259 : decode cX7_keep 259 = .ok (.iconst 0, 1) := by decide +kernel
theorem dX7_keep_260 : decode cX7_keep 260 = .ok (.iconst (-1), 1) := by decide +kernel
theorem dX7_keep_261 : decode cX7_keep 261 = .ok (.iload_n 1, 1) := by decide +kernel
theorem dX7_keep_262 : decode cX7_keep 262 = .ok (.bipush 26, 2) := by decide +kernel
theorem dX7_keep_264 : decode cX7_keep 264 = .ok (.if_icmp .ne 7, 3) := by decide +kernel
theorem dX7_keep_267 : decode cX7_keep 267 = .ok (.iconst 1, 1) := by decide +kernel
theorem dX7_keep_268 : decode cX7_keep 268 = .ok (.goto 4, 3) := by decide +kernel
theorem dX7_keep_271 : decode cX7_keep 271 = .ok (.iconst 0, 1) := by decide +kernel
theorem dX7_keep_272 : decode cX7_keep 272 = .ok (.invokevirtual 170, 3) := by decide +kernel
theorem dX7_keep_275 : decode cX7_keep 275 = .ok (.return_, 1) := by decide +kernel
theorem dX7_keepOfParty_0 : decode cX7_keepOfParty 0 = .ok (.iload_n 1, 1) := by decide +kernel
theorem dX7_keepOfParty_1 : decode cX7_keepOfParty 1 = .ok (.tableswitch 360 0 10 #[59, 81, 115, 154, 203, 252, 274, 296, 312, 328, 344], 59) := by decide +kernel
theorem dX7_keepOfParty_60 : decode cX7_keepOfParty 60 = .ok (.aload_n 0, 1) := by decide +kernel
theorem dX7_keepOfParty_61 : decode cX7_keepOfParty 61 = .ok (.getfield 12, 3) := by decide +kernel
theorem dX7_keepOfParty_64 : decode cX7_keepOfParty 64 = .ok (.aload_n 0, 1) := by decide +kernel
theorem dX7_keepOfParty_65 : decode cX7_keepOfParty 65 = .ok (.getfield 44, 3) := by decide +kernel
theorem dX7_keepOfParty_68 : decode cX7_keepOfParty 68 = .ok (.iconst 0, 1) := by decide +kernel
theorem dX7_keepOfParty_69 : decode cX7_keepOfParty 69 = .ok (.iaload, 1) := by decide +kernel
theorem dX7_keepOfParty_70 : decode cX7_keepOfParty 70 = .ok (.aload_n 0, 1) := by decide +kernel
theorem dX7_keepOfParty_71 : decode cX7_keepOfParty 71 = .ok (.getfield 44, 3) := by decide +kernel
theorem dX7_keepOfParty_74 : decode cX7_keepOfParty 74 = .ok (.iconst 1, 1) := by decide +kernel
theorem dX7_keepOfParty_75 : decode cX7_keepOfParty 75 = .ok (.iaload, 1) := by decide +kernel
theorem dX7_keepOfParty_76 : decode cX7_keepOfParty 76 = .ok (.invokevirtual 177, 3) := by decide +kernel
theorem dX7_keepOfParty_79 : decode cX7_keepOfParty 79 = .ok (.goto 295, 3) := by decide +kernel
theorem dX7_keepOfParty_82 : decode cX7_keepOfParty 82 = .ok (.aload_n 0, 1) := by decide +kernel
theorem dX7_keepOfParty_83 : decode cX7_keepOfParty 83 = .ok (.getfield 12, 3) := by decide +kernel
theorem dX7_keepOfParty_86 : decode cX7_keepOfParty 86 = .ok (.aload_n 0, 1) := by decide +kernel
theorem dX7_keepOfParty_87 : decode cX7_keepOfParty 87 = .ok (.getfield 44, 3) := by decide +kernel
theorem dX7_keepOfParty_90 : decode cX7_keepOfParty 90 = .ok (.iconst 0, 1) := by decide +kernel
theorem dX7_keepOfParty_91 : decode cX7_keepOfParty 91 = .ok (.iaload, 1) := by decide +kernel
theorem dX7_keepOfParty_92 : decode cX7_keepOfParty 92 = .ok (.aload_n 0, 1) := by decide +kernel
theorem dX7_keepOfParty_93 : decode cX7_keepOfParty 93 = .ok (.getfield 44, 3) := by decide +kernel
theorem dX7_keepOfParty_96 : decode cX7_keepOfParty 96 = .ok (.iconst 1, 1) := by decide +kernel
theorem dX7_keepOfParty_97 : decode cX7_keepOfParty 97 = .ok (.iaload, 1) := by decide +kernel
theorem dX7_keepOfParty_98 : decode cX7_keepOfParty 98 = .ok (.aload_n 0, 1) := by decide +kernel
