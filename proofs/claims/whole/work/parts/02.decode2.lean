theorem dX12_takeBut_1 : decode cX12_takeBut 1 = .ok (.getfield 130, 3) := by decide +kernel
theorem dX12_takeBut_4 : decode cX12_takeBut 4 = .ok (.iconst 3, 1) := by decide +kernel
theorem dX12_takeBut_5 : decode cX12_takeBut 5 = .ok (.if_icmp .eq 8, 3) := by decide +kernel
theorem dX12_takeBut_8 : decode cX12_takeBut 8 = .ok (.aload_n 0, 1) := by decide +kernel
theorem dX12_takeBut_9 : decode cX12_takeBut 9 = .ok (.invokevirtual 145, 3) := by decide +kernel
theorem dX12_takeBut_12 : decode cX12_takeBut 12 = .ok (.ireturn, 1) := by decide +kernel
theorem dX12_takeBut_13 : decode cX12_takeBut 13 = .ok (.aload_n 0, 1) := by decide +kernel
theorem dX12_takeBut_14 : decode cX12_takeBut 14 = .ok (.getfield 44, 3) := by decide +kernel
theorem dX12_takeBut_17 : decode cX12_takeBut 17 = .ok (.iload_n 1, 1) := by decide +kernel
theorem dX12_takeBut_18 : decode cX12_takeBut 18 = .ok (.aload_n 0, 1) := by decide +kernel
theorem dX12_takeBut_19 : decode cX12_takeBut 19 = .ok (.getfield 133, 3) := by decide +kernel
theorem dX12_takeBut_22 : decode cX12_takeBut 22 = .ok (.iastore, 1) := by decide +kernel
theorem dX12_takeBut_23 : decode cX12_takeBut 23 = .ok (.aload_n 0, 1) := by decide +kernel
theorem dX12_takeBut_24 : decode cX12_takeBut 24 = .ok (.getfield 133, 3) := by decide +kernel
theorem dX12_takeBut_27 : decode cX12_takeBut 27 = .ok (.iload_n 2, 1) := by decide +kernel
theorem dX12_takeBut_28 : decode cX12_takeBut 28 = .ok (.iload_n 3, 1) := by decide +kernel
theorem dX12_takeBut_29 : decode cX12_takeBut 29 = .ok (.invokestatic 105, 3) := by decide +kernel
theorem dX12_takeBut_32 : decode cX12_takeBut 32 = .ok (.ifCond .eq 12, 3) := by decide +kernel
theorem dX12_takeBut_35 : decode cX12_takeBut 35 = .ok (.aload_n 0, 1) := by decide +kernel
theorem dX12_takeBut_36 : decode cX12_takeBut 36 = .ok (.getfield 133, 3) := by decide +kernel
theorem dX12_takeBut_39 : decode cX12_takeBut 39 = .ok (.iload 4, 2) := by decide +kernel
theorem dX12_takeBut_41 : decode cX12_takeBut 41 = .ok (.if_icmp .ne 17, 3) := by decide +kernel
theorem dX12_takeBut_44 : decode cX12_takeBut 44 = .ok (.aload_n 0, 1) := by decide +kernel
theorem dX12_takeBut_45 : decode cX12_takeBut 45 = .ok (.iconst 2, 1) := by decide +kernel
theorem dX12_takeBut_46 : decode cX12_takeBut 46 = .ok (.aload_n 0, 1) := by decide +kernel
theorem dX12_takeBut_47 : decode cX12_takeBut 47 = .ok (.getfield 123, 3) := by decide +kernel
theorem dX12_takeBut_50 : decode cX12_takeBut 50 = .ok (.invokevirtual 149, 3) := by decide +kernel
theorem dX12_takeBut_53 : decode cX12_takeBut 53 = .ok (.aload_n 0, 1) := by decide +kernel
theorem dX12_takeBut_54 : decode cX12_takeBut 54 = .ok (.iconst 0, 1) := by decide +kernel
theorem dX12_takeBut_55 : decode cX12_takeBut 55 = .ok (.putfield 153, 3) := by decide +kernel
theorem dX12_takeBut_58 : decode cX12_takeBut 58 = .ok (.aload_n 0, 1) := by decide +kernel
theorem dX12_takeBut_59 : decode cX12_takeBut 59 = .ok (.invokevirtual 157, 3) := by decide +kernel
theorem dX12_takeBut_62 : decode cX12_takeBut 62 = .ok (.iconst 1, 1) := by decide +kernel
theorem dX12_takeBut_63 : decode cX12_takeBut 63 = .ok (.ireturn, 1) := by decide +kernel
theorem dX12_take_0 : decode cX12_take 0 = .ok (.aload_n 0, 1) := by decide +kernel
theorem dX12_take_1 : decode cX12_take 1 = .ok (.iload_n 1, 1) := by decide +kernel
theorem dX12_take_2 : decode cX12_take 2 = .ok (.iload_n 2, 1) := by decide +kernel
theorem dX12_take_3 : decode cX12_take 3 = .ok (.iload_n 3, 1) := by decide +kernel
theorem dX12_take_4 : decode cX12_take 4 = .ok (.iconst (-1), 1) := by decide +kernel
theorem dX12_take_5 : decode cX12_take 5 = .ok (.invokevirtual 160, 3) := by decide +kernel
theorem dX12_take_8 : decode cX12_take 8 = .ok (.ireturn, 1) := by decide +kernel
theorem dX12_takeChild_0 : decode cX12_takeChild 0 = .ok (.aload_n 0, 1) := by decide +kernel
theorem dX12_takeChild_1 : decode cX12_takeChild 1 = .ok (.iload_n 1, 1) := by decide +kernel
theorem dX12_takeChild_2 : decode cX12_takeChild 2 = .ok (.iconst 0, 1) := by decide +kernel
theorem dX12_takeChild_3 : decode cX12_takeChild 3 = .ok (.bipush 7, 2) := by decide +kernel
theorem dX12_takeChild_5 : decode cX12_takeChild 5 = .ok (.iload_n 2, 1) := by decide +kernel
theorem dX12_takeChild_6 : decode cX12_takeChild 6 = .ok (.invokevirtual 160, 3) := by decide +kernel
theorem dX12_takeChild_9 : decode cX12_takeChild 9 = .ok (.istore_n 3, 1) := by decide +kernel
theorem dX12_takeChild_10 : decode cX12_takeChild 10 = .ok (.aload_n 0, 1) := by decide +kernel
theorem dX12_takeChild_11 : decode cX12_takeChild 11 = .ok (.iload_n 3, 1) := by decide +kernel
theorem dX12_takeChild_12 : decode cX12_takeChild 12 = .ok (.ifCond .eq 19, 3) := by decide +kernel
theorem dX12_takeChild_15 : decode cX12_takeChild 15 = .ok (.aload_n 0, 1) := by decide +kernel
theorem dX12_takeChild_16 : decode cX12_takeChild 16 = .ok (.getfield 164, 3) := by decide +kernel
theorem dX12_takeChild_19 : decode cX12_takeChild 19 = .ok (.aload_n 0, 1) := by decide +kernel
theorem dX12_takeChild_20 : decode cX12_takeChild 20 = .ok (.getfield 44, 3) := by decide +kernel
theorem dX12_takeChild_23 : decode cX12_takeChild 23 = .ok (.iload_n 1, 1) := by decide +kernel
theorem dX12_takeChild_24 : decode cX12_takeChild 24 = .ok (.iaload, 1) := by decide +kernel
theorem dX12_takeChild_25 : decode cX12_takeChild 25 = .ok (.invokestatic 167, 3) := by decide +kernel
theorem dX12_takeChild_28 : decode cX12_takeChild 28 = .ok (.goto 7, 3) := by decide +kernel
theorem dX12_takeChild_31 : decode cX12_takeChild 31 = .ok (.aload_n 0, 1) := by decide +kernel
theorem dX12_takeChild_32 : decode cX12_takeChild 32 = .ok (.getfield 164, 3) := by decide +kernel
theorem dX12_takeChild_35 : decode cX12_takeChild 35 = .ok (.putfield 164, 3) := by decide +kernel
theorem dX12_takeChild_38 : decode cX12_takeChild 38 = .ok (.iload_n 3, 1) := by decide +kernel
theorem dX12_takeChild_39 : decode cX12_takeChild 39 = .ok (.ireturn, 1) := by decide +kernel
theorem dX12_full_0 : decode cX12_full 0 = .ok (.aload_n 0, 1) := by decide +kernel
theorem dX12_full_1 : decode cX12_full 1 = .ok (.getfield 41, 3) := by decide +kernel
theorem dX12_full_4 : decode cX12_full 4 = .ok (.iload_n 1, 1) := by decide +kernel
theorem dX12_full_5 : decode cX12_full 5 = .ok (.iaload, 1) := by decide +kernel
theorem dX12_full_6 : decode cX12_full 6 = .ok (.iload_n 2, 1) := by decide +kernel
theorem dX12_full_7 : decode cX12_full 7 = .ok (.if_icmp .ne 9, 3) := by decide +kernel
theorem dX12_full_10 : decode cX12_full 10 = .ok (.aload_n 0, 1) := by decide +kernel
theorem dX12_full_11 : decode cX12_full 11 = .ok (.iconst 3, 1) := by decide +kernel
theorem dX12_full_12 : decode cX12_full 12 = .ok (.iload_n 3, 1) := by decide +kernel
theorem dX12_full_13 : decode cX12_full 13 = .ok (.invokevirtual 149, 3) := by decide +kernel
theorem dX12_full_16 : decode cX12_full 16 = .ok (.return_, 1) := by decide +kernel
theorem dX12_keep_0 : decode cX12_keep 0 = .ok (.aload_n 0, 1) := by decide +kernel
theorem dX12_keep_1 : decode cX12_keep 1 = .ok (.getfield 41, 3) := by decide +kernel
theorem dX12_keep_4 : decode cX12_keep 4 = .ok (.iload_n 1, 1) := by decide +kernel
theorem dX12_keep_5 : decode cX12_keep 5 = .ok (.iaload, 1) := by decide +kernel
theorem dX12_keep_6 : decode cX12_keep 6 = .ok (.istore 5, 2) := by decide +kernel
theorem dX12_keep_8 : decode cX12_keep 8 = .ok (.iload 5, 2) := by decide +kernel
theorem dX12_keep_10 : decode cX12_keep 10 = .ok (.iload 4, 2) := by decide +kernel
theorem dX12_keep_12 : decode cX12_keep 12 = .ok (.if_icmp .ne 4, 3) := by decide +kernel
theorem dX12_keep_15 : decode cX12_keep 15 = .ok (.return_, 1) := by decide +kernel
theorem dX12_keep_16 : decode cX12_keep 16 = .ok (.iconst 0, 1) := by decide +kernel
theorem dX12_keep_17 : decode cX12_keep 17 = .ok (.istore 6, 2) := by decide +kernel
theorem dX12_keep_19 : decode cX12_keep 19 = .ok (.iload 6, 2) := by decide +kernel
theorem dX12_keep_21 : decode cX12_keep 21 = .ok (.iload_n 3, 1) := by decide +kernel
theorem dX12_keep_22 : decode cX12_keep 22 = .ok (.if_icmp .ge 30, 3) := by decide +kernel
theorem dX12_keep_25 : decode cX12_keep 25 = .ok (.aload_n 0, 1) := by decide +kernel
theorem dX12_keep_26 : decode cX12_keep 26 = .ok (.getfield 41, 3) := by decide +kernel
theorem dX12_keep_29 : decode cX12_keep 29 = .ok (.iload_n 2, 1) := by decide +kernel
theorem dX12_keep_30 : decode cX12_keep 30 = .ok (.iload_n 3, 1) := by decide +kernel
theorem dX12_keep_31 : decode cX12_keep 31 = .ok (.iload 5, 2) := by decide +kernel
theorem dX12_keep_33 : decode cX12_keep 33 = .ok (.imul, 1) := by decide +kernel
theorem dX12_keep_34 : decode cX12_keep 34 = .ok (.iadd, 1) := by decide +kernel
theorem dX12_keep_35 : decode cX12_keep 35 = .ok (.iload 6, 2) := by decide +kernel
theorem dX12_keep_37 : decode cX12_keep 37 = .ok (.iadd, 1) := by decide +kernel
theorem dX12_keep_38 : decode cX12_keep 38 = .ok (.aload_n 0, 1) := by decide +kernel
theorem dX12_keep_39 : decode cX12_keep 39 = .ok (.getfield 44, 3) := by decide +kernel
theorem dX12_keep_42 : decode cX12_keep 42 = .ok (.iload 6, 2) := by decide +kernel
theorem dX12_keep_44 : decode cX12_keep 44 = .ok (.iaload, 1) := by decide +kernel
theorem dX12_keep_45 : decode cX12_keep 45 = .ok (.iastore, 1) := by decide +kernel
theorem dX12_keep_46 : decode cX12_keep 46 = .ok (.iinc 6 1, 3) := by decide +kernel
theorem dX12_keep_49 : decode cX12_keep 49 = .ok (.goto (-30), 3) := by decide +kernel
theorem dX12_keep_52 : decode cX12_keep 52 = .ok (.aload_n 0, 1) := by decide +kernel
theorem dX12_keep_53 : decode cX12_keep 53 = .ok (.getfield 41, 3) := by decide +kernel
theorem dX12_keep_56 : decode cX12_keep 56 = .ok (.iload_n 1, 1) := by decide +kernel
theorem dX12_keep_57 : decode cX12_keep 57 = .ok (.dup2, 1) := by decide +kernel
theorem dX12_keep_58 : decode cX12_keep 58 = .ok (.iaload, 1) := by decide +kernel
theorem dX12_keep_59 : decode cX12_keep 59 = .ok (.iconst 1, 1) := by decide +kernel
theorem dX12_keep_60 : decode cX12_keep 60 = .ok (.iadd, 1) := by decide +kernel
theorem dX12_keep_61 : decode cX12_keep 61 = .ok (.iastore, 1) := by decide +kernel
theorem dX12_keep_62 : decode cX12_keep 62 = .ok (.return_, 1) := by decide +kernel
theorem dX12_plainOf_0 : decode cX12_plainOf 0 = .ok (.lload_n 0, 1) := by decide +kernel
theorem dX12_plainOf_1 : decode cX12_plainOf 1 = .ok (.ldc2_w 171, 3) := by decide +kernel
theorem dX12_plainOf_4 : decode cX12_plainOf 4 = .ok (.lcmp, 1) := by decide +kernel
theorem dX12_plainOf_5 : decode cX12_plainOf 5 = .ok (.ifCond .ne 7, 3) := by decide +kernel
theorem dX12_plainOf_8 : decode cX12_plainOf 8 = .ok (.iconst 2, 1) := by decide +kernel
theorem dX12_plainOf_9 : decode cX12_plainOf 9 = .ok (.goto 53, 3) := by decide +kernel
theorem dX12_plainOf_12 : decode cX12_plainOf 12 = .ok (.lload_n 0, 1) := by decide +kernel
theorem dX12_plainOf_13 : decode cX12_plainOf 13 = .ok (.ldc2_w 173, 3) := by decide +kernel
theorem dX12_plainOf_16 : decode cX12_plainOf 16 = .ok (.lcmp, 1) := by decide +kernel
theorem dX12_plainOf_17 : decode cX12_plainOf 17 = .ok (.ifCond .ne 7, 3) := by decide +kernel
theorem dX12_plainOf_20 : decode cX12_plainOf 20 = .ok (.iconst 3, 1) := by decide +kernel
theorem dX12_plainOf_21 : decode cX12_plainOf 21 = .ok (.goto 41, 3) := by decide +kernel
theorem dX12_plainOf_24 : decode cX12_plainOf 24 = .ok (.lload_n 0, 1) := by decide +kernel
theorem dX12_plainOf_25 : decode cX12_plainOf 25 = .ok (.ldc2_w 175, 3) := by decide +kernel
theorem dX12_plainOf_28 : decode cX12_plainOf 28 = .ok (.lcmp, 1) := by decide +kernel
theorem dX12_plainOf_29 : decode cX12_plainOf 29 = .ok (.ifCond .ne 7, 3) := by decide +kernel
theorem dX12_plainOf_32 : decode cX12_plainOf 32 = .ok (.iconst 4, 1) := by decide +kernel
theorem dX12_plainOf_33 : decode cX12_plainOf 33 = .ok (.goto 29, 3) := by decide +kernel
theorem dX12_plainOf_36 : decode cX12_plainOf 36 = .ok (.lload_n 0, 1) := by decide +kernel
theorem dX12_plainOf_37 : decode cX12_plainOf 37 = .ok (.ldc2_w 177, 3) := by decide +kernel
theorem dX12_plainOf_40 : decode cX12_plainOf 40 = .ok (.lcmp, 1) := by decide +kernel
theorem dX12_plainOf_41 : decode cX12_plainOf 41 = .ok (.ifCond .ne 7, 3) := by decide +kernel
theorem dX12_plainOf_44 : decode cX12_plainOf 44 = .ok (.iconst 5, 1) := by decide +kernel
theorem dX12_plainOf_45 : decode cX12_plainOf 45 = .ok (.goto 17, 3) := by decide +kernel
theorem dX12_plainOf_48 : decode cX12_plainOf 48 = .ok (.lload_n 0, 1) := by decide +kernel
theorem dX12_plainOf_49 : decode cX12_plainOf 49 = .ok (.ldc2_w 179, 3) := by decide +kernel
theorem dX12_plainOf_52 : decode cX12_plainOf 52 = .ok (.lcmp, 1) := by decide +kernel
theorem dX12_plainOf_53 : decode cX12_plainOf 53 = .ok (.ifCond .ne 8, 3) := by decide +kernel
theorem dX12_plainOf_56 : decode cX12_plainOf 56 = .ok (.bipush 6, 2) := by decide +kernel
theorem dX12_plainOf_58 : decode cX12_plainOf 58 = .ok (.goto 4, 3) := by decide +kernel
theorem dX12_plainOf_61 : decode cX12_plainOf 61 = .ok (.iconst (-1), 1) := by decide +kernel
theorem dX12_plainOf_62 : decode cX12_plainOf 62 = .ok (.ireturn, 1) := by decide +kernel
theorem dX12_lowOf_0 : decode cX12_lowOf 0 = .ok (.iload_n 0, 1) := by decide +kernel
theorem dX12_lowOf_1 : decode cX12_lowOf 1 = .ok (.iconst 2, 1) := by decide +kernel
theorem dX12_lowOf_2 : decode cX12_lowOf 2 = .ok (.if_icmp .ne 7, 3) := by decide +kernel
theorem dX12_lowOf_5 : decode cX12_lowOf 5 = .ok (.iconst 1, 1) := by decide +kernel
theorem dX12_lowOf_6 : decode cX12_lowOf 6 = .ok (.goto 13, 3) := by decide +kernel
theorem dX12_lowOf_9 : decode cX12_lowOf 9 = .ok (.iload_n 0, 1) := by decide +kernel
theorem dX12_lowOf_10 : decode cX12_lowOf 10 = .ok (.iconst 3, 1) := by decide +kernel
theorem dX12_lowOf_11 : decode cX12_lowOf 11 = .ok (.if_icmp .ne 7, 3) := by decide +kernel
theorem dX12_lowOf_14 : decode cX12_lowOf 14 = .ok (.iconst 3, 1) := by decide +kernel
theorem dX12_lowOf_15 : decode cX12_lowOf 15 = .ok (.goto 4, 3) := by decide +kernel
theorem dX12_lowOf_18 : decode cX12_lowOf 18 = .ok (.iconst 0, 1) := by decide +kernel
theorem dX12_lowOf_19 : decode cX12_lowOf 19 = .ok (.ireturn, 1) := by decide +kernel
theorem dX12_highOf_0 : decode cX12_highOf 0 = .ok (.iload_n 0, 1) := by decide +kernel
theorem dX12_highOf_1 : decode cX12_highOf 1 = .ok (.iconst 2, 1) := by decide +kernel
theorem dX12_highOf_2 : decode cX12_highOf 2 = .ok (.if_icmp .ne 7, 3) := by decide +kernel
theorem dX12_highOf_5 : decode cX12_highOf 5 = .ok (.iconst 5, 1) := by decide +kernel
theorem dX12_highOf_6 : decode cX12_highOf 6 = .ok (.goto 34, 3) := by decide +kernel
theorem dX12_highOf_9 : decode cX12_highOf 9 = .ok (.iload_n 0, 1) := by decide +kernel
theorem dX12_highOf_10 : decode cX12_highOf 10 = .ok (.iconst 3, 1) := by decide +kernel
theorem dX12_highOf_11 : decode cX12_highOf 11 = .ok (.if_icmp .ne 8, 3) := by decide +kernel
theorem dX12_highOf_14 : decode cX12_highOf 14 = .ok (.bipush 16, 2) := by decide +kernel
theorem dX12_highOf_16 : decode cX12_highOf 16 = .ok (.goto 24, 3) := by decide +kernel
theorem dX12_highOf_19 : decode cX12_highOf 19 = .ok (.iload_n 0, 1) := by decide +kernel
theorem dX12_highOf_20 : decode cX12_highOf 20 = .ok (.iconst 4, 1) := by decide +kernel
theorem dX12_highOf_21 : decode cX12_highOf 21 = .ok (.if_icmp .ne 8, 3) := by decide +kernel
theorem dX12_highOf_24 : decode cX12_highOf 24 = .ok (.bipush 60, 2) := by decide +kernel
theorem dX12_highOf_26 : decode cX12_highOf 26 = .ok (.goto 14, 3) := by decide +kernel
theorem dX12_highOf_29 : decode cX12_highOf 29 = .ok (.iload_n 0, 1) := by decide +kernel
theorem dX12_highOf_30 : decode cX12_highOf 30 = .ok (.iconst 5, 1) := by decide +kernel
theorem dX12_highOf_31 : decode cX12_highOf 31 = .ok (.if_icmp .ne 8, 3) := by decide +kernel
theorem dX12_highOf_34 : decode cX12_highOf 34 = .ok (.bipush 9, 2) := by decide +kernel
theorem dX12_highOf_36 : decode cX12_highOf 36 = .ok (.goto 4, 3) := by decide +kernel
theorem dX12_highOf_39 : decode cX12_highOf 39 = .ok (.iconst 3, 1) := by decide +kernel
theorem dX12_highOf_40 : decode cX12_highOf 40 = .ok (.ireturn, 1) := by decide +kernel
theorem dX12_childLine_0 : decode cX12_childLine 0 = .ok (.aload_n 0, 1) := by decide +kernel
theorem dX12_childLine_1 : decode cX12_childLine 1 = .ok (.iconst 0, 1) := by decide +kernel
theorem dX12_childLine_2 : decode cX12_childLine 2 = .ok (.iconst 3, 1) := by decide +kernel
theorem dX12_childLine_3 : decode cX12_childLine 3 = .ok (.bipush 15, 2) := by decide +kernel
theorem dX12_childLine_5 : decode cX12_childLine 5 = .ok (.invokevirtual 181, 3) := by decide +kernel
theorem dX12_childLine_8 : decode cX12_childLine 8 = .ok (.ifCond .eq 36, 3) := by decide +kernel
theorem dX12_childLine_11 : decode cX12_childLine 11 = .ok (.aload_n 0, 1) := by decide +kernel
theorem dX12_childLine_12 : decode cX12_childLine 12 = .ok (.iconst 1, 1) := by decide +kernel
theorem dX12_childLine_13 : decode cX12_childLine 13 = .ok (.iconst 1, 1) := by decide +kernel
theorem dX12_childLine_14 : decode cX12_childLine 14 = .ok (.bipush 9, 2) := by decide +kernel
theorem dX12_childLine_16 : decode cX12_childLine 16 = .ok (.invokevirtual 181, 3) := by decide +kernel
theorem dX12_childLine_19 : decode cX12_childLine 19 = .ok (.ifCond .eq 25, 3) := by decide +kernel
theorem dX12_childLine_22 : decode cX12_childLine 22 = .ok (.aload_n 0, 1) := by decide +kernel
theorem dX12_childLine_23 : decode cX12_childLine 23 = .ok (.iconst 2, 1) := by decide +kernel
theorem dX12_childLine_24 : decode cX12_childLine 24 = .ok (.iconst 0, 1) := by decide +kernel
theorem dX12_childLine_25 : decode cX12_childLine 25 = .ok (.bipush 10, 2) := by decide +kernel
theorem dX12_childLine_27 : decode cX12_childLine 27 = .ok (.invokevirtual 181, 3) := by decide +kernel
theorem dX12_childLine_30 : decode cX12_childLine 30 = .ok (.ifCond .eq 14, 3) := by decide +kernel
theorem dX12_childLine_33 : decode cX12_childLine 33 = .ok (.aload_n 0, 1) := by decide +kernel
theorem dX12_childLine_34 : decode cX12_childLine 34 = .ok (.iconst 3, 1) := by decide +kernel
theorem dX12_childLine_35 : decode cX12_childLine 35 = .ok (.iconst 0, 1) := by decide +kernel
theorem dX12_childLine_36 : decode cX12_childLine 36 = .ok (.bipush 9, 2) := by decide +kernel
theorem dX12_childLine_38 : decode cX12_childLine 38 = .ok (.invokevirtual 181, 3) := by decide +kernel
theorem dX12_childLine_41 : decode cX12_childLine 41 = .ok (.ifCond .ne 5, 3) := by decide +kernel
theorem dX12_childLine_44 : decode cX12_childLine 44 = .ok (.iconst 0, 1) := by decide +kernel
theorem dX12_childLine_45 : decode cX12_childLine 45 = .ok (.ireturn, 1) := by decide +kernel
theorem dX12_childLine_46 : decode cX12_childLine 46 = .ok (.aload_n 0, 1) := by decide +kernel
theorem dX12_childLine_47 : decode cX12_childLine 47 = .ok (.getfield 41, 3) := by decide +kernel
theorem dX12_childLine_50 : decode cX12_childLine 50 = .ok (.iconst 1, 1) := by decide +kernel
theorem dX12_childLine_51 : decode cX12_childLine 51 = .ok (.iaload, 1) := by decide +kernel
theorem dX12_childLine_52 : decode cX12_childLine 52 = .ok (.bipush 8, 2) := by decide +kernel
theorem dX12_childLine_54 : decode cX12_childLine 54 = .ok (.if_icmp .ge 51, 3) := by decide +kernel
theorem dX12_childLine_57 : decode cX12_childLine 57 = .ok (.iconst 0, 1) := by decide +kernel
theorem dX12_childLine_58 : decode cX12_childLine 58 = .ok (.istore_n 1, 1) := by decide +kernel
theorem dX12_childLine_59 : decode cX12_childLine 59 = .ok (.iload_n 1, 1) := by decide +kernel
theorem dX12_childLine_60 : decode cX12_childLine 60 = .ok (.iconst 4, 1) := by decide +kernel
theorem dX12_childLine_61 : decode cX12_childLine 61 = .ok (.if_icmp .ge 34, 3) := by decide +kernel
theorem dX12_childLine_64 : decode cX12_childLine 64 = .ok (.aload_n 0, 1) := by decide +kernel
theorem dX12_childLine_65 : decode cX12_childLine 65 = .ok (.getfield 41, 3) := by decide +kernel
theorem dX12_childLine_68 : decode cX12_childLine 68 = .ok (.bipush 28, 2) := by decide +kernel
theorem dX12_childLine_70 : decode cX12_childLine 70 = .ok (.bipush 13, 2) := by decide +kernel
theorem dX12_childLine_72 : decode cX12_childLine 72 = .ok (.aload_n 0, 1) := by decide +kernel
theorem dX12_childLine_73 : decode cX12_childLine 73 = .ok (.getfield 41, 3) := by decide +kernel
theorem dX12_childLine_76 : decode cX12_childLine 76 = .ok (.iconst 1, 1) := by decide +kernel
theorem dX12_childLine_77 : decode cX12_childLine 77 = .ok (.iaload, 1) := by decide +kernel
theorem dX12_childLine_78 : decode cX12_childLine 78 = .ok (.imul, 1) := by decide +kernel
theorem dX12_childLine_79 : decode cX12_childLine 79 = .ok (.iadd, 1) := by decide +kernel
theorem dX12_childLine_80 : decode cX12_childLine 80 = .ok (.iload_n 1, 1) := by decide +kernel
theorem dX12_childLine_81 : decode cX12_childLine 81 = .ok (.iadd, 1) := by decide +kernel
theorem dX12_childLine_82 : decode cX12_childLine 82 = .ok (.aload_n 0, 1) := by decide +kernel
theorem dX12_childLine_83 : decode cX12_childLine 83 = .ok (.getfield 44, 3) := by decide +kernel
theorem dX12_childLine_86 : decode cX12_childLine 86 = .ok (.iload_n 1, 1) := by decide +kernel
theorem dX12_childLine_87 : decode cX12_childLine 87 = .ok (.iaload, 1) := by decide +kernel
theorem dX12_childLine_88 : decode cX12_childLine 88 = .ok (.iastore, 1) := by decide +kernel
theorem dX12_childLine_89 : decode cX12_childLine 89 = .ok (.iinc 1 1, 3) := by decide +kernel
theorem dX12_childLine_92 : decode cX12_childLine 92 = .ok (.goto (-33), 3) := by decide +kernel
theorem dX12_childLine_95 : decode cX12_childLine 95 = .ok (.aload_n 0, 1) := by decide +kernel
theorem dX12_childLine_96 : decode cX12_childLine 96 = .ok (.getfield 41, 3) := by decide +kernel
theorem dX12_childLine_99 : decode cX12_childLine 99 = .ok (.iconst 1, 1) := by decide +kernel
theorem dX12_childLine_100 : decode cX12_childLine 100 = .ok (.dup2, 1) := by decide +kernel
theorem dX12_childLine_101 : decode cX12_childLine 101 = .ok (.iaload, 1) := by decide +kernel
theorem dX12_childLine_102 : decode cX12_childLine 102 = .ok (.iconst 1, 1) := by decide +kernel
theorem dX12_childLine_103 : decode cX12_childLine 103 = .ok (.iadd, 1) := by decide +kernel
theorem dX12_childLine_104 : decode cX12_childLine 104 = .ok (.iastore, 1) := by decide +kernel
theorem dX12_childLine_105 : decode cX12_childLine 105 = .ok (.iconst 1, 1) := by decide +kernel
theorem dX12_childLine_106 : decode cX12_childLine 106 = .ok (.ireturn, 1) := by decide +kernel
theorem dX12_ofChildren_0 : decode cX12_ofChildren 0 = .ok (.aload_n 0, 1) := by decide +kernel
theorem dX12_ofChildren_1 : decode cX12_ofChildren 1 = .ok (.iconst 0, 1) := by decide +kernel
theorem dX12_ofChildren_2 : decode cX12_ofChildren 2 = .ok (.iconst (-1), 1) := by decide +kernel
theorem dX12_ofChildren_3 : decode cX12_ofChildren 3 = .ok (.invokevirtual 184, 3) := by decide +kernel
theorem dX12_ofChildren_6 : decode cX12_ofChildren 6 = .ok (.ifCond .ne 5, 3) := by decide +kernel
theorem dX12_ofChildren_9 : decode cX12_ofChildren 9 = .ok (.iconst 0, 1) := by decide +kernel
theorem dX12_ofChildren_10 : decode cX12_ofChildren 10 = .ok (.ireturn, 1) := by decide +kernel
theorem dX12_ofChildren_11 : decode cX12_ofChildren 11 = .ok (.lload_n 1, 1) := by decide +kernel
theorem dX12_ofChildren_12 : decode cX12_ofChildren 12 = .ok (.ldc2_w 188, 3) := by decide +kernel
theorem dX12_ofChildren_15 : decode cX12_ofChildren 15 = .ok (.lcmp, 1) := by decide +kernel
theorem dX12_ofChildren_16 : decode cX12_ofChildren 16 = .ok (.ifCond .ne 50, 3) := by decide +kernel
theorem dX12_ofChildren_19 : decode cX12_ofChildren 19 = .ok (.aload_n 0, 1) := by decide +kernel
theorem dX12_ofChildren_20 : decode cX12_ofChildren 20 = .ok (.iconst 1, 1) := by decide +kernel
theorem dX12_ofChildren_21 : decode cX12_ofChildren 21 = .ok (.iconst 0, 1) := by decide +kernel
theorem dX12_ofChildren_22 : decode cX12_ofChildren 22 = .ok (.bipush 24, 2) := by decide +kernel
theorem dX12_ofChildren_24 : decode cX12_ofChildren 24 = .ok (.invokevirtual 181, 3) := by decide +kernel
theorem dX12_ofChildren_27 : decode cX12_ofChildren 27 = .ok (.ifCond .ne 5, 3) := by decide +kernel
theorem dX12_ofChildren_30 : decode cX12_ofChildren 30 = .ok (.iconst 0, 1) := by decide +kernel
theorem dX12_ofChildren_31 : decode cX12_ofChildren 31 = .ok (.ireturn, 1) := by decide +kernel
theorem dX12_ofChildren_32 : decode cX12_ofChildren 32 = .ok (.aload_n 0, 1) := by decide +kernel
theorem dX12_ofChildren_33 : decode cX12_ofChildren 33 = .ok (.getfield 153, 3) := by decide +kernel
theorem dX12_ofChildren_36 : decode cX12_ofChildren 36 = .ok (.ifCond .eq 28, 3) := by decide +kernel
theorem dX12_ofChildren_39 : decode cX12_ofChildren 39 = .ok (.aload_n 0, 1) := by decide +kernel
theorem dX12_ofChildren_40 : decode cX12_ofChildren 40 = .ok (.getfield 41, 3) := by decide +kernel
theorem dX12_ofChildren_43 : decode cX12_ofChildren 43 = .ok (.bipush 28, 2) := by decide +kernel
theorem dX12_ofChildren_45 : decode cX12_ofChildren 45 = .ok (.bipush 13, 2) := by decide +kernel
theorem dX12_ofChildren_47 : decode cX12_ofChildren 47 = .ok (.aload_n 0, 1) := by decide +kernel
theorem dX12_ofChildren_48 : decode cX12_ofChildren 48 = .ok (.getfield 44, 3) := by decide +kernel
theorem dX12_ofChildren_51 : decode cX12_ofChildren 51 = .ok (.iconst 0, 1) := by decide +kernel
theorem dX12_ofChildren_52 : decode cX12_ofChildren 52 = .ok (.iaload, 1) := by decide +kernel
theorem dX12_ofChildren_53 : decode cX12_ofChildren 53 = .ok (.imul, 1) := by decide +kernel
theorem dX12_ofChildren_54 : decode cX12_ofChildren 54 = .ok (.iadd, 1) := by decide +kernel
theorem dX12_ofChildren_55 : decode cX12_ofChildren 55 = .ok (.iconst 4, 1) := by decide +kernel
theorem dX12_ofChildren_56 : decode cX12_ofChildren 56 = .ok (.iadd, 1) := by decide +kernel
theorem dX12_ofChildren_57 : decode cX12_ofChildren 57 = .ok (.aload_n 0, 1) := by decide +kernel
theorem dX12_ofChildren_58 : decode cX12_ofChildren 58 = .ok (.getfield 44, 3) := by decide +kernel
theorem dX12_ofChildren_61 : decode cX12_ofChildren 61 = .ok (.iconst 1, 1) := by decide +kernel
theorem dX12_ofChildren_62 : decode cX12_ofChildren 62 = .ok (.iaload, 1) := by decide +kernel
theorem dX12_ofChildren_63 : decode cX12_ofChildren 63 = .ok (.iastore, 1) := by decide +kernel
theorem dX12_ofChildren_64 : decode cX12_ofChildren 64 = .ok (.iconst 1, 1) := by decide +kernel
theorem dX12_ofChildren_65 : decode cX12_ofChildren 65 = .ok (.ireturn, 1) := by decide +kernel
theorem dX12_ofChildren_66 : decode cX12_ofChildren 66 = .ok (.aload_n 0, 1) := by decide +kernel
theorem dX12_ofChildren_67 : decode cX12_ofChildren 67 = .ok (.iconst 1, 1) := by decide +kernel
theorem dX12_ofChildren_68 : decode cX12_ofChildren 68 = .ok (.aload_n 0, 1) := by decide +kernel
theorem dX12_ofChildren_69 : decode cX12_ofChildren 69 = .ok (.getfield 44, 3) := by decide +kernel
theorem dX12_ofChildren_72 : decode cX12_ofChildren 72 = .ok (.iconst 0, 1) := by decide +kernel
theorem dX12_ofChildren_73 : decode cX12_ofChildren 73 = .ok (.iaload, 1) := by decide +kernel
theorem dX12_ofChildren_74 : decode cX12_ofChildren 74 = .ok (.invokevirtual 184, 3) := by decide +kernel
theorem dX12_ofChildren_77 : decode cX12_ofChildren 77 = .ok (.ifCond .ne 5, 3) := by decide +kernel
theorem dX12_ofChildren_80 : decode cX12_ofChildren 80 = .ok (.iconst 0, 1) := by decide +kernel
theorem dX12_ofChildren_81 : decode cX12_ofChildren 81 = .ok (.ireturn, 1) := by decide +kernel
theorem dX12_ofChildren_82 : decode cX12_ofChildren 82 = .ok (.aload_n 0, 1) := by decide +kernel
theorem dX12_ofChildren_83 : decode cX12_ofChildren 83 = .ok (.getfield 153, 3) := by decide +kernel
theorem dX12_ofChildren_86 : decode cX12_ofChildren 86 = .ok (.ifCond .eq 42, 3) := by decide +kernel
theorem dX12_ofChildren_89 : decode cX12_ofChildren 89 = .ok (.aload_n 0, 1) := by decide +kernel
theorem dX12_ofChildren_90 : decode cX12_ofChildren 90 = .ok (.getfield 41, 3) := by decide +kernel
theorem dX12_ofChildren_93 : decode cX12_ofChildren 93 = .ok (.bipush 28, 2) := by decide +kernel
theorem dX12_ofChildren_95 : decode cX12_ofChildren 95 = .ok (.bipush 13, 2) := by decide +kernel
theorem dX12_ofChildren_97 : decode cX12_ofChildren 97 = .ok (.aload_n 0, 1) := by decide +kernel
theorem dX12_ofChildren_98 : decode cX12_ofChildren 98 = .ok (.getfield 44, 3) := by decide +kernel
theorem dX12_ofChildren_101 : decode cX12_ofChildren 101 = .ok (.iconst 0, 1) := by decide +kernel
theorem dX12_ofChildren_102 : decode cX12_ofChildren 102 = .ok (.iaload, 1) := by decide +kernel
theorem dX12_ofChildren_103 : decode cX12_ofChildren 103 = .ok (.imul, 1) := by decide +kernel
theorem dX12_ofChildren_104 : decode cX12_ofChildren 104 = .ok (.iadd, 1) := by decide +kernel
theorem dX12_ofChildren_105 : decode cX12_ofChildren 105 = .ok (.iconst 5, 1) := by decide +kernel
theorem dX12_ofChildren_106 : decode cX12_ofChildren 106 = .ok (.iadd, 1) := by decide +kernel
theorem dX12_ofChildren_107 : decode cX12_ofChildren 107 = .ok (.aload_n 0, 1) := by decide +kernel
theorem dX12_ofChildren_108 : decode cX12_ofChildren 108 = .ok (.getfield 44, 3) := by decide +kernel
theorem dX12_ofChildren_111 : decode cX12_ofChildren 111 = .ok (.iconst 1, 1) := by decide +kernel
theorem dX12_ofChildren_112 : decode cX12_ofChildren 112 = .ok (.iaload, 1) := by decide +kernel
theorem dX12_ofChildren_113 : decode cX12_ofChildren 113 = .ok (.iadd, 1) := by decide +kernel
theorem dX12_ofChildren_114 : decode cX12_ofChildren 114 = .ok (.lload_n 1, 1) := by decide +kernel
theorem dX12_ofChildren_115 : decode cX12_ofChildren 115 = .ok (.ldc2_w 190, 3) := by decide +kernel
theorem dX12_ofChildren_118 : decode cX12_ofChildren 118 = .ok (.lcmp, 1) := by decide +kernel
theorem dX12_ofChildren_119 : decode cX12_ofChildren 119 = .ok (.ifCond .ne 7, 3) := by decide +kernel
theorem dX12_ofChildren_122 : decode cX12_ofChildren 122 = .ok (.iconst 2, 1) := by decide +kernel
theorem dX12_ofChildren_123 : decode cX12_ofChildren 123 = .ok (.goto 4, 3) := by decide +kernel
theorem dX12_ofChildren_126 : decode cX12_ofChildren 126 = .ok (.iconst 0, 1) := by decide +kernel
theorem dX12_ofChildren_127 : decode cX12_ofChildren 127 = .ok (.iastore, 1) := by decide +kernel
theorem dX12_ofChildren_128 : decode cX12_ofChildren 128 = .ok (.iconst 1, 1) := by decide +kernel
theorem dX12_ofChildren_129 : decode cX12_ofChildren 129 = .ok (.ireturn, 1) := by decide +kernel
theorem dX12_weightLine_0 : decode cX12_weightLine 0 = .ok (.aload_n 0, 1) := by decide +kernel
theorem dX12_weightLine_1 : decode cX12_weightLine 1 = .ok (.iconst 0, 1) := by decide +kernel
theorem dX12_weightLine_2 : decode cX12_weightLine 2 = .ok (.iconst 0, 1) := by decide +kernel
theorem dX12_weightLine_3 : decode cX12_weightLine 3 = .ok (.iload_n 1, 1) := by decide +kernel
theorem dX12_weightLine_4 : decode cX12_weightLine 4 = .ok (.ifCond .eq 8, 3) := by decide +kernel
theorem dX12_weightLine_7 : decode cX12_weightLine 7 = .ok (.bipush 7, 2) := by decide +kernel
theorem dX12_weightLine_9 : decode cX12_weightLine 9 = .ok (.goto 4, 3) := by decide +kernel
theorem dX12_weightLine_12 : decode cX12_weightLine 12 = .ok (.iconst 2, 1) := by decide +kernel
theorem dX12_weightLine_13 : decode cX12_weightLine 13 = .ok (.invokevirtual 181, 3) := by decide +kernel
theorem dX12_weightLine_16 : decode cX12_weightLine 16 = .ok (.ifCond .eq 14, 3) := by decide +kernel
theorem dX12_weightLine_19 : decode cX12_weightLine 19 = .ok (.aload_n 0, 1) := by decide +kernel
theorem dX12_weightLine_20 : decode cX12_weightLine 20 = .ok (.iconst 1, 1) := by decide +kernel
theorem dX12_weightLine_21 : decode cX12_weightLine 21 = .ok (.iconst 0, 1) := by decide +kernel
theorem dX12_weightLine_22 : decode cX12_weightLine 22 = .ok (.bipush 9, 2) := by decide +kernel
theorem dX12_weightLine_24 : decode cX12_weightLine 24 = .ok (.invokevirtual 181, 3) := by decide +kernel
theorem dX12_weightLine_27 : decode cX12_weightLine 27 = .ok (.ifCond .ne 5, 3) := by decide +kernel
theorem dX12_weightLine_30 : decode cX12_weightLine 30 = .ok (.iconst 0, 1) := by decide +kernel
theorem dX12_weightLine_31 : decode cX12_weightLine 31 = .ok (.ireturn, 1) := by decide +kernel
theorem dX12_weightLine_32 : decode cX12_weightLine 32 = .ok (.aload_n 0, 1) := by decide +kernel
theorem dX12_weightLine_33 : decode cX12_weightLine 33 = .ok (.getfield 153, 3) := by decide +kernel
theorem dX12_weightLine_36 : decode cX12_weightLine 36 = .ok (.ifCond .eq 32, 3) := by decide +kernel
theorem dX12_weightLine_39 : decode cX12_weightLine 39 = .ok (.aload_n 0, 1) := by decide +kernel
theorem dX12_weightLine_40 : decode cX12_weightLine 40 = .ok (.getfield 41, 3) := by decide +kernel
theorem dX12_weightLine_43 : decode cX12_weightLine 43 = .ok (.iload_n 1, 1) := by decide +kernel
theorem dX12_weightLine_44 : decode cX12_weightLine 44 = .ok (.ifCond .eq 8, 3) := by decide +kernel
theorem dX12_weightLine_47 : decode cX12_weightLine 47 = .ok (.bipush 7, 2) := by decide +kernel
theorem dX12_weightLine_49 : decode cX12_weightLine 49 = .ok (.goto 5, 3) := by decide +kernel
theorem dX12_weightLine_52 : decode cX12_weightLine 52 = .ok (.bipush 15, 2) := by decide +kernel
theorem dX12_weightLine_54 : decode cX12_weightLine 54 = .ok (.aload_n 0, 1) := by decide +kernel
theorem dX12_weightLine_55 : decode cX12_weightLine 55 = .ok (.getfield 44, 3) := by decide +kernel
theorem dX12_weightLine_58 : decode cX12_weightLine 58 = .ok (.iconst 0, 1) := by decide +kernel
theorem dX12_weightLine_59 : decode cX12_weightLine 59 = .ok (.iaload, 1) := by decide +kernel
theorem dX12_weightLine_60 : decode cX12_weightLine 60 = .ok (.iadd, 1) := by decide +kernel
theorem dX12_weightLine_61 : decode cX12_weightLine 61 = .ok (.aload_n 0, 1) := by decide +kernel
theorem dX12_weightLine_62 : decode cX12_weightLine 62 = .ok (.getfield 44, 3) := by decide +kernel
theorem dX12_weightLine_65 : decode cX12_weightLine 65 = .ok (.iconst 1, 1) := by decide +kernel
theorem dX12_weightLine_66 : decode cX12_weightLine 66 = .ok (.iaload, 1) := by decide +kernel
theorem dX12_weightLine_67 : decode cX12_weightLine 67 = .ok (.iastore, 1) := by decide +kernel
theorem dX12_weightLine_68 : decode cX12_weightLine 68 = .ok (.iconst 1, 1) := by decide +kernel
theorem dX12_weightLine_69 : decode cX12_weightLine 69 = .ok (.ireturn, 1) := by decide +kernel
theorem dX12_partyLine_0 : decode cX12_partyLine 0 = .ok (.lload_n 1, 1) := by decide +kernel
theorem dX12_partyLine_1 : decode cX12_partyLine 1 = .ok (.invokestatic 192, 3) := by decide +kernel
theorem dX12_partyLine_4 : decode cX12_partyLine 4 = .ok (.istore 4, 2) := by decide +kernel
theorem dX12_partyLine_6 : decode cX12_partyLine 6 = .ok (.lload_n 1, 1) := by decide +kernel
theorem dX12_partyLine_7 : decode cX12_partyLine 7 = .ok (.ldc2_w 188, 3) := by decide +kernel
theorem dX12_partyLine_10 : decode cX12_partyLine 10 = .ok (.lcmp, 1) := by decide +kernel
theorem dX12_partyLine_11 : decode cX12_partyLine 11 = .ok (.ifCond .eq 19, 3) := by decide +kernel
theorem dX12_partyLine_14 : decode cX12_partyLine 14 = .ok (.lload_n 1, 1) := by decide +kernel
theorem dX12_partyLine_15 : decode cX12_partyLine 15 = .ok (.ldc2_w 190, 3) := by decide +kernel
theorem dX12_partyLine_18 : decode cX12_partyLine 18 = .ok (.lcmp, 1) := by decide +kernel
theorem dX12_partyLine_19 : decode cX12_partyLine 19 = .ok (.ifCond .eq 11, 3) := by decide +kernel
theorem dX12_partyLine_22 : decode cX12_partyLine 22 = .ok (.lload_n 1, 1) := by decide +kernel
theorem dX12_partyLine_23 : decode cX12_partyLine 23 = .ok (.ldc2_w 196, 3) := by decide +kernel
theorem dX12_partyLine_26 : decode cX12_partyLine 26 = .ok (.lcmp, 1) := by decide +kernel
theorem dX12_partyLine_27 : decode cX12_partyLine 27 = .ok (.ifCond .ne 7, 3) := by decide +kernel
theorem dX12_partyLine_30 : decode cX12_partyLine 30 = .ok (.iconst 1, 1) := by decide +kernel
theorem dX12_partyLine_31 : decode cX12_partyLine 31 = .ok (.goto 4, 3) := by decide +kernel
theorem dX12_partyLine_34 : decode cX12_partyLine 34 = .ok (.iconst 0, 1) := by decide +kernel
theorem dX12_partyLine_35 : decode cX12_partyLine 35 = .ok (.istore 5, 2) := by decide +kernel
theorem dX12_partyLine_37 : decode cX12_partyLine 37 = .ok (.iload 4, 2) := by decide +kernel
theorem dX12_partyLine_39 : decode cX12_partyLine 39 = .ok (.iconst (-1), 1) := by decide +kernel
theorem dX12_partyLine_40 : decode cX12_partyLine 40 = .ok (.if_icmp .ne 45, 3) := by decide +kernel
theorem dX12_partyLine_43 : decode cX12_partyLine 43 = .ok (.iload 5, 2) := by decide +kernel
theorem dX12_partyLine_45 : decode cX12_partyLine 45 = .ok (.ifCond .ne 40, 3) := by decide +kernel
theorem dX12_partyLine_48 : decode cX12_partyLine 48 = .ok (.lload_n 1, 1) := by decide +kernel
theorem dX12_partyLine_49 : decode cX12_partyLine 49 = .ok (.ldc2_w 198, 3) := by decide +kernel
theorem dX12_partyLine_52 : decode cX12_partyLine 52 = .ok (.lcmp, 1) := by decide +kernel
theorem dX12_partyLine_53 : decode cX12_partyLine 53 = .ok (.ifCond .eq 32, 3) := by decide +kernel
theorem dX12_partyLine_56 : decode cX12_partyLine 56 = .ok (.lload_n 1, 1) := by decide +kernel
theorem dX12_partyLine_57 : decode cX12_partyLine 57 = .ok (.ldc2_w 200, 3) := by decide +kernel
theorem dX12_partyLine_60 : decode cX12_partyLine 60 = .ok (.lcmp, 1) := by decide +kernel
theorem dX12_partyLine_61 : decode cX12_partyLine 61 = .ok (.ifCond .eq 24, 3) := by decide +kernel
theorem dX12_partyLine_64 : decode cX12_partyLine 64 = .ok (.lload_n 1, 1) := by decide +kernel
theorem dX12_partyLine_65 : decode cX12_partyLine 65 = .ok (.ldc2_w 202, 3) := by decide +kernel
theorem dX12_partyLine_68 : decode cX12_partyLine 68 = .ok (.lcmp, 1) := by decide +kernel
theorem dX12_partyLine_69 : decode cX12_partyLine 69 = .ok (.ifCond .eq 16, 3) := by decide +kernel
theorem dX12_partyLine_72 : decode cX12_partyLine 72 = .ok (.lload_n 1, 1) := by decide +kernel
theorem dX12_partyLine_73 : decode cX12_partyLine 73 = .ok (.ldc2_w 204, 3) := by decide +kernel
theorem dX12_partyLine_76 : decode cX12_partyLine 76 = .ok (.lcmp, 1) := by decide +kernel
theorem dX12_partyLine_77 : decode cX12_partyLine 77 = .ok (.ifCond .eq 8, 3) := by decide +kernel
theorem dX12_partyLine_80 : decode cX12_partyLine 80 = .ok (.aload_n 0, 1) := by decide +kernel
theorem dX12_partyLine_81 : decode cX12_partyLine 81 = .ok (.invokevirtual 145, 3) := by decide +kernel
theorem dX12_partyLine_84 : decode cX12_partyLine 84 = .ok (.ireturn, 1) := by decide +kernel
theorem dX12_partyLine_85 : decode cX12_partyLine 85 = .ok (.lload_n 1, 1) := by decide +kernel
theorem dX12_partyLine_86 : decode cX12_partyLine 86 = .ok (.ldc2_w 198, 3) := by decide +kernel
theorem dX12_partyLine_89 : decode cX12_partyLine 89 = .ok (.lcmp, 1) := by decide +kernel
theorem dX12_partyLine_90 : decode cX12_partyLine 90 = .ok (.ifCond .ne 13, 3) := by decide +kernel
theorem dX12_partyLine_93 : decode cX12_partyLine 93 = .ok (.aload_n 0, 1) := by decide +kernel
theorem dX12_partyLine_94 : decode cX12_partyLine 94 = .ok (.iconst 0, 1) := by decide +kernel
theorem dX12_partyLine_95 : decode cX12_partyLine 95 = .ok (.iconst 5, 1) := by decide +kernel
theorem dX12_partyLine_96 : decode cX12_partyLine 96 = .ok (.iload_n 3, 1) := by decide +kernel
theorem dX12_partyLine_97 : decode cX12_partyLine 97 = .ok (.invokevirtual 206, 3) := by decide +kernel
theorem dX12_partyLine_100 : decode cX12_partyLine 100 = .ok (.goto 19, 3) := by decide +kernel
theorem dX12_partyLine_103 : decode cX12_partyLine 103 = .ok (.lload_n 1, 1) := by decide +kernel
theorem dX12_partyLine_104 : decode cX12_partyLine 104 = .ok (.ldc2_w 200, 3) := by decide +kernel
theorem dX12_partyLine_107 : decode cX12_partyLine 107 = .ok (.lcmp, 1) := by decide +kernel
theorem dX12_partyLine_108 : decode cX12_partyLine 108 = .ok (.ifCond .ne 11, 3) := by decide +kernel
theorem dX12_partyLine_111 : decode cX12_partyLine 111 = .ok (.aload_n 0, 1) := by decide +kernel
theorem dX12_partyLine_112 : decode cX12_partyLine 112 = .ok (.iconst 1, 1) := by decide +kernel
theorem dX12_partyLine_113 : decode cX12_partyLine 113 = .ok (.bipush 8, 2) := by decide +kernel
theorem dX12_partyLine_115 : decode cX12_partyLine 115 = .ok (.iload_n 3, 1) := by decide +kernel
theorem dX12_partyLine_116 : decode cX12_partyLine 116 = .ok (.invokevirtual 206, 3) := by decide +kernel
theorem dX12_partyLine_119 : decode cX12_partyLine 119 = .ok (.aload_n 0, 1) := by decide +kernel
theorem dX12_partyLine_120 : decode cX12_partyLine 120 = .ok (.invokevirtual 157, 3) := by decide +kernel
theorem dX12_partyLine_123 : decode cX12_partyLine 123 = .ok (.iload 5, 2) := by decide +kernel
theorem dX12_partyLine_125 : decode cX12_partyLine 125 = .ok (.ifCond .eq 9, 3) := by decide +kernel
theorem dX12_partyLine_128 : decode cX12_partyLine 128 = .ok (.aload_n 0, 1) := by decide +kernel
theorem dX12_partyLine_129 : decode cX12_partyLine 129 = .ok (.lload_n 1, 1) := by decide +kernel
theorem dX12_partyLine_130 : decode cX12_partyLine 130 = .ok (.invokevirtual 210, 3) := by decide +kernel
theorem dX12_partyLine_133 : decode cX12_partyLine 133 = .ok (.ireturn, 1) := by decide +kernel
theorem dX12_partyLine_134 : decode cX12_partyLine 134 = .ok (.lload_n 1, 1) := by decide +kernel
theorem dX12_partyLine_135 : decode cX12_partyLine 135 = .ok (.ldc2_w 200, 3) := by decide +kernel
theorem dX12_partyLine_138 : decode cX12_partyLine 138 = .ok (.lcmp, 1) := by decide +kernel
theorem dX12_partyLine_139 : decode cX12_partyLine 139 = .ok (.ifCond .ne 8, 3) := by decide +kernel
theorem dX12_partyLine_142 : decode cX12_partyLine 142 = .ok (.aload_n 0, 1) := by decide +kernel
theorem dX12_partyLine_143 : decode cX12_partyLine 143 = .ok (.invokevirtual 214, 3) := by decide +kernel
theorem dX12_partyLine_146 : decode cX12_partyLine 146 = .ok (.ireturn, 1) := by decide +kernel
theorem dX12_partyLine_147 : decode cX12_partyLine 147 = .ok (.lload_n 1, 1) := by decide +kernel
theorem dX12_partyLine_148 : decode cX12_partyLine 148 = .ok (.ldc2_w 202, 3) := by decide +kernel
theorem dX12_partyLine_151 : decode cX12_partyLine 151 = .ok (.lcmp, 1) := by decide +kernel
theorem dX12_partyLine_152 : decode cX12_partyLine 152 = .ok (.ifCond .eq 11, 3) := by decide +kernel
theorem dX12_partyLine_155 : decode cX12_partyLine 155 = .ok (.lload_n 1, 1) := by decide +kernel
theorem dX12_partyLine_156 : decode cX12_partyLine 156 = .ok (.ldc2_w 204, 3) := by decide +kernel
theorem dX12_partyLine_159 : decode cX12_partyLine 159 = .ok (.lcmp, 1) := by decide +kernel
theorem dX12_partyLine_160 : decode cX12_partyLine 160 = .ok (.ifCond .ne 21, 3) := by decide +kernel
theorem dX12_partyLine_163 : decode cX12_partyLine 163 = .ok (.aload_n 0, 1) := by decide +kernel
theorem dX12_partyLine_164 : decode cX12_partyLine 164 = .ok (.lload_n 1, 1) := by decide +kernel
theorem dX12_partyLine_165 : decode cX12_partyLine 165 = .ok (.ldc2_w 202, 3) := by decide +kernel
theorem dX12_partyLine_168 : decode cX12_partyLine 168 = .ok (.lcmp, 1) := by decide +kernel
theorem dX12_partyLine_169 : decode cX12_partyLine 169 = .ok (.ifCond .ne 7, 3) := by decide +kernel
theorem dX12_partyLine_172 : decode cX12_partyLine 172 = .ok (.iconst 1, 1) := by decide +kernel
theorem dX12_partyLine_173 : decode cX12_partyLine 173 = .ok (.goto 4, 3) := by decide +kernel
theorem dX12_partyLine_176 : decode cX12_partyLine 176 = .ok (.iconst 0, 1) := by decide +kernel
theorem dX12_partyLine_177 : decode cX12_partyLine 177 = .ok (.invokevirtual 217, 3) := by decide +kernel
theorem dX12_partyLine_180 : decode cX12_partyLine 180 = .ok (.ireturn, 1) := by decide +kernel
theorem dX12_partyLine_181 : decode cX12_partyLine 181 = .ok (.lload_n 1, 1) := by decide +kernel
theorem dX12_partyLine_182 : decode cX12_partyLine 182 = .ok (.ldc2_w 198, 3) := by decide +kernel
theorem dX12_partyLine_185 : decode cX12_partyLine 185 = .ok (.lcmp, 1) := by decide +kernel
theorem dX12_partyLine_186 : decode cX12_partyLine 186 = .ok (.ifCond .ne 38, 3) := by decide +kernel
theorem dX12_partyLine_189 : decode cX12_partyLine 189 = .ok (.aload_n 0, 1) := by decide +kernel
theorem dX12_partyLine_190 : decode cX12_partyLine 190 = .ok (.iconst 0, 1) := by decide +kernel
theorem dX12_partyLine_191 : decode cX12_partyLine 191 = .ok (.iconst 0, 1) := by decide +kernel
theorem dX12_partyLine_192 : decode cX12_partyLine 192 = .ok (.bipush 9, 2) := by decide +kernel
theorem dX12_partyLine_194 : decode cX12_partyLine 194 = .ok (.invokevirtual 181, 3) := by decide +kernel
theorem dX12_partyLine_197 : decode cX12_partyLine 197 = .ok (.ifCond .eq 14, 3) := by decide +kernel
theorem dX12_partyLine_200 : decode cX12_partyLine 200 = .ok (.aload_n 0, 1) := by decide +kernel
theorem dX12_partyLine_201 : decode cX12_partyLine 201 = .ok (.iconst 1, 1) := by decide +kernel
theorem dX12_partyLine_202 : decode cX12_partyLine 202 = .ok (.iconst 1, 1) := by decide +kernel
theorem dX12_partyLine_203 : decode cX12_partyLine 203 = .ok (.bipush 30, 2) := by decide +kernel
theorem dX12_partyLine_205 : decode cX12_partyLine 205 = .ok (.invokevirtual 181, 3) := by decide +kernel
theorem dX12_partyLine_208 : decode cX12_partyLine 208 = .ok (.ifCond .ne 5, 3) := by decide +kernel
theorem dX12_partyLine_211 : decode cX12_partyLine 211 = .ok (.iconst 0, 1) := by decide +kernel
theorem dX12_partyLine_212 : decode cX12_partyLine 212 = .ok (.ireturn, 1) := by decide +kernel
theorem dX12_partyLine_213 : decode cX12_partyLine 213 = .ok (.aload_n 0, 1) := by decide +kernel
theorem dX12_partyLine_214 : decode cX12_partyLine 214 = .ok (.iconst 0, 1) := by decide +kernel
theorem dX12_partyLine_215 : decode cX12_partyLine 215 = .ok (.bipush 18, 2) := by decide +kernel
theorem dX12_partyLine_217 : decode cX12_partyLine 217 = .ok (.iconst 2, 1) := by decide +kernel
theorem dX12_partyLine_218 : decode cX12_partyLine 218 = .ok (.iconst 5, 1) := by decide +kernel
theorem dX12_partyLine_219 : decode cX12_partyLine 219 = .ok (.invokevirtual 221, 3) := by decide +kernel
theorem dX12_partyLine_222 : decode cX12_partyLine 222 = .ok (.iconst 1, 1) := by decide +kernel
theorem dX12_partyLine_223 : decode cX12_partyLine 223 = .ok (.ireturn, 1) := by decide +kernel
theorem dX12_partyLine_224 : decode cX12_partyLine 224 = .ok (.aload_n 0, 1) := by decide +kernel
theorem dX12_partyLine_225 : decode cX12_partyLine 225 = .ok (.iconst 0, 1) := by decide +kernel
theorem dX12_partyLine_226 : decode cX12_partyLine 226 = .ok (.iload 4, 2) := by decide +kernel
theorem dX12_partyLine_228 : decode cX12_partyLine 228 = .ok (.invokestatic 225, 3) := by decide +kernel
theorem dX12_partyLine_231 : decode cX12_partyLine 231 = .ok (.iload 4, 2) := by decide +kernel
theorem dX12_partyLine_233 : decode cX12_partyLine 233 = .ok (.invokestatic 229, 3) := by decide +kernel
theorem dX12_partyLine_236 : decode cX12_partyLine 236 = .ok (.invokevirtual 181, 3) := by decide +kernel
theorem dX12_partyLine_239 : decode cX12_partyLine 239 = .ok (.ifCond .ne 5, 3) := by decide +kernel
theorem dX12_partyLine_242 : decode cX12_partyLine 242 = .ok (.iconst 0, 1) := by decide +kernel
theorem dX12_partyLine_243 : decode cX12_partyLine 243 = .ok (.ireturn, 1) := by decide +kernel
theorem dX12_partyLine_244 : decode cX12_partyLine 244 = .ok (.aload_n 0, 1) := by decide +kernel
theorem dX12_partyLine_245 : decode cX12_partyLine 245 = .ok (.getfield 41, 3) := by decide +kernel
theorem dX12_partyLine_248 : decode cX12_partyLine 248 = .ok (.iload 4, 2) := by decide +kernel
theorem dX12_partyLine_250 : decode cX12_partyLine 250 = .ok (.aload_n 0, 1) := by decide +kernel
theorem dX12_partyLine_251 : decode cX12_partyLine 251 = .ok (.getfield 44, 3) := by decide +kernel
theorem dX12_partyLine_254 : decode cX12_partyLine 254 = .ok (.iconst 0, 1) := by decide +kernel
theorem dX12_partyLine_255 : decode cX12_partyLine 255 = .ok (.iaload, 1) := by decide +kernel
theorem dX12_partyLine_256 : decode cX12_partyLine 256 = .ok (.iastore, 1) := by decide +kernel
theorem dX12_partyLine_257 : decode cX12_partyLine 257 = .ok (.iconst 1, 1) := by decide +kernel
theorem dX12_partyLine_258 : decode cX12_partyLine 258 = .ok (.ireturn, 1) := by decide +kernel
theorem dX12_deedBy_0 : decode cX12_deedBy 0 = .ok (.lload_n 0, 1) := by decide +kernel
theorem dX12_deedBy_1 : decode cX12_deedBy 1 = .ok (.ldc2_w 232, 3) := by decide +kernel
theorem dX12_deedBy_4 : decode cX12_deedBy 4 = .ok (.lcmp, 1) := by decide +kernel
theorem dX12_deedBy_5 : decode cX12_deedBy 5 = .ok (.ifCond .ne 7, 3) := by decide +kernel
theorem dX12_deedBy_8 : decode cX12_deedBy 8 = .ok (.iconst 0, 1) := by decide +kernel
theorem dX12_deedBy_9 : decode cX12_deedBy 9 = .ok (.goto 64, 3) := by decide +kernel
theorem dX12_deedBy_12 : decode cX12_deedBy 12 = .ok (.lload_n 0, 1) := by decide +kernel
theorem dX12_deedBy_13 : decode cX12_deedBy 13 = .ok (.ldc2_w 234, 3) := by decide +kernel
theorem dX12_deedBy_16 : decode cX12_deedBy 16 = .ok (.lcmp, 1) := by decide +kernel
theorem dX12_deedBy_17 : decode cX12_deedBy 17 = .ok (.ifCond .ne 7, 3) := by decide +kernel
theorem dX12_deedBy_20 : decode cX12_deedBy 20 = .ok (.iconst 1, 1) := by decide +kernel
theorem dX12_deedBy_21 : decode cX12_deedBy 21 = .ok (.goto 52, 3) := by decide +kernel
theorem dX12_deedBy_24 : decode cX12_deedBy 24 = .ok (.lload_n 0, 1) := by decide +kernel
theorem dX12_deedBy_25 : decode cX12_deedBy 25 = .ok (.ldc2_w 236, 3) := by decide +kernel
theorem dX12_deedBy_28 : decode cX12_deedBy 28 = .ok (.lcmp, 1) := by decide +kernel
theorem dX12_deedBy_29 : decode cX12_deedBy 29 = .ok (.ifCond .ne 7, 3) := by decide +kernel
theorem dX12_deedBy_32 : decode cX12_deedBy 32 = .ok (.iconst 2, 1) := by decide +kernel
theorem dX12_deedBy_33 : decode cX12_deedBy 33 = .ok (.goto 40, 3) := by decide +kernel
theorem dX12_deedBy_36 : decode cX12_deedBy 36 = .ok (.lload_n 0, 1) := by decide +kernel
theorem dX12_deedBy_37 : decode cX12_deedBy 37 = .ok (.ldc2_w 238, 3) := by decide +kernel
theorem dX12_deedBy_40 : decode cX12_deedBy 40 = .ok (.lcmp, 1) := by decide +kernel
theorem dX12_deedBy_41 : decode cX12_deedBy 41 = .ok (.ifCond .ne 7, 3) := by decide +kernel
theorem dX12_deedBy_44 : decode cX12_deedBy 44 = .ok (.iconst 3, 1) := by decide +kernel
theorem dX12_deedBy_45 : decode cX12_deedBy 45 = .ok (.goto 28, 3) := by decide +kernel
theorem dX12_deedBy_48 : decode cX12_deedBy 48 = .ok (.lload_n 0, 1) := by decide +kernel
theorem dX12_deedBy_49 : decode cX12_deedBy 49 = .ok (.ldc2_w 240, 3) := by decide +kernel
theorem dX12_deedBy_52 : decode cX12_deedBy 52 = .ok (.lcmp, 1) := by decide +kernel
theorem dX12_deedBy_53 : decode cX12_deedBy 53 = .ok (.ifCond .ne 7, 3) := by decide +kernel
theorem dX12_deedBy_56 : decode cX12_deedBy 56 = .ok (.iconst 4, 1) := by decide +kernel
theorem dX12_deedBy_57 : decode cX12_deedBy 57 = .ok (.goto 16, 3) := by decide +kernel
theorem dX12_deedBy_60 : decode cX12_deedBy 60 = .ok (.lload_n 0, 1) := by decide +kernel
theorem dX12_deedBy_61 : decode cX12_deedBy 61 = .ok (.ldc2_w 242, 3) := by decide +kernel
theorem dX12_deedBy_64 : decode cX12_deedBy 64 = .ok (.lcmp, 1) := by decide +kernel
theorem dX12_deedBy_65 : decode cX12_deedBy 65 = .ok (.ifCond .ne 7, 3) := by decide +kernel
theorem dX12_deedBy_68 : decode cX12_deedBy 68 = .ok (.iconst 5, 1) := by decide +kernel
theorem dX12_deedBy_69 : decode cX12_deedBy 69 = .ok (.goto 4, 3) := by decide +kernel
theorem dX12_deedBy_72 : decode cX12_deedBy 72 = .ok (.iconst (-1), 1) := by decide +kernel
theorem dX12_deedBy_73 : decode cX12_deedBy 73 = .ok (.ireturn, 1) := by decide +kernel
theorem dX12_bookLine_0 : decode cX12_bookLine 0 = .ok (.lload_n 1, 1) := by decide +kernel
theorem dX12_bookLine_1 : decode cX12_bookLine 1 = .ok (.invokestatic 244, 3) := by decide +kernel
theorem dX12_bookLine_4 : decode cX12_bookLine 4 = .ok (.istore 4, 2) := by decide +kernel
theorem dX12_bookLine_6 : decode cX12_bookLine 6 = .ok (.iload 4, 2) := by decide +kernel
theorem dX12_bookLine_8 : decode cX12_bookLine 8 = .ok (.iconst (-1), 1) := by decide +kernel
theorem dX12_bookLine_9 : decode cX12_bookLine 9 = .ok (.if_icmp .ne 8, 3) := by decide +kernel
theorem dX12_bookLine_12 : decode cX12_bookLine 12 = .ok (.aload_n 0, 1) := by decide +kernel
theorem dX12_bookLine_13 : decode cX12_bookLine 13 = .ok (.invokevirtual 145, 3) := by decide +kernel
theorem dX12_bookLine_16 : decode cX12_bookLine 16 = .ok (.ireturn, 1) := by decide +kernel
theorem dX12_bookLine_17 : decode cX12_bookLine 17 = .ok (.aload_n 0, 1) := by decide +kernel
theorem dX12_bookLine_18 : decode cX12_bookLine 18 = .ok (.iconst 0, 1) := by decide +kernel
theorem dX12_bookLine_19 : decode cX12_bookLine 19 = .ok (.bipush 40, 2) := by decide +kernel
theorem dX12_bookLine_21 : decode cX12_bookLine 21 = .ok (.iload_n 3, 1) := by decide +kernel
theorem dX12_bookLine_22 : decode cX12_bookLine 22 = .ok (.invokevirtual 206, 3) := by decide +kernel
theorem dX12_bookLine_25 : decode cX12_bookLine 25 = .ok (.aload_n 0, 1) := by decide +kernel
theorem dX12_bookLine_26 : decode cX12_bookLine 26 = .ok (.invokevirtual 157, 3) := by decide +kernel
theorem dX12_bookLine_29 : decode cX12_bookLine 29 = .ok (.aload_n 0, 1) := by decide +kernel
theorem dX12_bookLine_30 : decode cX12_bookLine 30 = .ok (.getfield 44, 3) := by decide +kernel
theorem dX12_bookLine_33 : decode cX12_bookLine 33 = .ok (.iconst 0, 1) := by decide +kernel
theorem dX12_bookLine_34 : decode cX12_bookLine 34 = .ok (.iload 4, 2) := by decide +kernel
theorem dX12_bookLine_36 : decode cX12_bookLine 36 = .ok (.iastore, 1) := by decide +kernel
theorem dX12_bookLine_37 : decode cX12_bookLine 37 = .ok (.aload_n 0, 1) := by decide +kernel
theorem dX12_bookLine_38 : decode cX12_bookLine 38 = .ok (.getfield 44, 3) := by decide +kernel
theorem dX12_bookLine_41 : decode cX12_bookLine 41 = .ok (.iconst 1, 1) := by decide +kernel
theorem dX12_bookLine_42 : decode cX12_bookLine 42 = .ok (.iconst (-1), 1) := by decide +kernel
theorem dX12_bookLine_43 : decode cX12_bookLine 43 = .ok (.iastore, 1) := by decide +kernel
theorem dX12_bookLine_44 : decode cX12_bookLine 44 = .ok (.aload_n 0, 1) := by decide +kernel
theorem dX12_bookLine_45 : decode cX12_bookLine 45 = .ok (.getfield 44, 3) := by decide +kernel
theorem dX12_bookLine_48 : decode cX12_bookLine 48 = .ok (.iconst 2, 1) := by decide +kernel
theorem dX12_bookLine_49 : decode cX12_bookLine 49 = .ok (.iconst (-1), 1) := by decide +kernel
theorem dX12_bookLine_50 : decode cX12_bookLine 50 = .ok (.iastore, 1) := by decide +kernel
theorem dX12_bookLine_51 : decode cX12_bookLine 51 = .ok (.iload 4, 2) := by decide +kernel
theorem dX12_bookLine_53 : decode cX12_bookLine 53 = .ok (.iconst 3, 1) := by decide +kernel
theorem dX12_bookLine_54 : decode cX12_bookLine 54 = .ok (.if_icmp .eq 9, 3) := by decide +kernel
theorem dX12_bookLine_57 : decode cX12_bookLine 57 = .ok (.iload 4, 2) := by decide +kernel
theorem dX12_bookLine_59 : decode cX12_bookLine 59 = .ok (.iconst 4, 1) := by decide +kernel
theorem dX12_bookLine_60 : decode cX12_bookLine 60 = .ok (.if_icmp .ne 7, 3) := by decide +kernel
theorem dX12_bookLine_63 : decode cX12_bookLine 63 = .ok (.iconst 1, 1) := by decide +kernel
theorem dX12_bookLine_64 : decode cX12_bookLine 64 = .ok (.goto 4, 3) := by decide +kernel
theorem dX12_bookLine_67 : decode cX12_bookLine 67 = .ok (.iconst 0, 1) := by decide +kernel
theorem dX12_bookLine_68 : decode cX12_bookLine 68 = .ok (.istore 5, 2) := by decide +kernel
theorem dX12_bookLine_70 : decode cX12_bookLine 70 = .ok (.iload 4, 2) := by decide +kernel
theorem dX12_bookLine_72 : decode cX12_bookLine 72 = .ok (.iconst 5, 1) := by decide +kernel
theorem dX12_bookLine_73 : decode cX12_bookLine 73 = .ok (.if_icmp .eq 47, 3) := by decide +kernel
theorem dX12_bookLine_76 : decode cX12_bookLine 76 = .ok (.aload_n 0, 1) := by decide +kernel
theorem dX12_bookLine_77 : decode cX12_bookLine 77 = .ok (.iconst 1, 1) := by decide +kernel
theorem dX12_bookLine_78 : decode cX12_bookLine 78 = .ok (.iload 5, 2) := by decide +kernel
theorem dX12_bookLine_80 : decode cX12_bookLine 80 = .ok (.ifCond .eq 7, 3) := by decide +kernel
theorem dX12_bookLine_83 : decode cX12_bookLine 83 = .ok (.iconst 1, 1) := by decide +kernel
theorem dX12_bookLine_84 : decode cX12_bookLine 84 = .ok (.goto 4, 3) := by decide +kernel
theorem dX12_bookLine_87 : decode cX12_bookLine 87 = .ok (.iconst 0, 1) := by decide +kernel
theorem dX12_bookLine_88 : decode cX12_bookLine 88 = .ok (.iload 4, 2) := by decide +kernel
theorem dX12_bookLine_90 : decode cX12_bookLine 90 = .ok (.ifCond .eq 15, 3) := by decide +kernel
theorem dX12_bookLine_93 : decode cX12_bookLine 93 = .ok (.iload 4, 2) := by decide +kernel
theorem dX12_bookLine_95 : decode cX12_bookLine 95 = .ok (.iconst 1, 1) := by decide +kernel
theorem dX12_bookLine_96 : decode cX12_bookLine 96 = .ok (.if_icmp .eq 9, 3) := by decide +kernel
theorem dX12_bookLine_99 : decode cX12_bookLine 99 = .ok (.iload 4, 2) := by decide +kernel
theorem dX12_bookLine_101 : decode cX12_bookLine 101 = .ok (.iconst 2, 1) := by decide +kernel
theorem dX12_bookLine_102 : decode cX12_bookLine 102 = .ok (.if_icmp .ne 8, 3) := by decide +kernel
theorem dX12_bookLine_105 : decode cX12_bookLine 105 = .ok (.bipush 7, 2) := by decide +kernel
theorem dX12_bookLine_107 : decode cX12_bookLine 107 = .ok (.goto 5, 3) := by decide +kernel
theorem dX12_bookLine_110 : decode cX12_bookLine 110 = .ok (.bipush 9, 2) := by decide +kernel
theorem dX12_bookLine_112 : decode cX12_bookLine 112 = .ok (.invokevirtual 181, 3) := by decide +kernel
theorem dX12_bookLine_115 : decode cX12_bookLine 115 = .ok (.ifCond .ne 5, 3) := by decide +kernel
theorem dX12_bookLine_118 : decode cX12_bookLine 118 = .ok (.iconst 0, 1) := by decide +kernel
theorem dX12_bookLine_119 : decode cX12_bookLine 119 = .ok (.ireturn, 1) := by decide +kernel
theorem dX12_bookLine_120 : decode cX12_bookLine 120 = .ok (.iload 4, 2) := by decide +kernel
theorem dX12_bookLine_122 : decode cX12_bookLine 122 = .ok (.iconst 2, 1) := by decide +kernel
theorem dX12_bookLine_123 : decode cX12_bookLine 123 = .ok (.if_icmp .ne 16, 3) := by decide +kernel
theorem dX12_bookLine_126 : decode cX12_bookLine 126 = .ok (.aload_n 0, 1) := by decide +kernel
theorem dX12_bookLine_127 : decode cX12_bookLine 127 = .ok (.iconst 2, 1) := by decide +kernel
theorem dX12_bookLine_128 : decode cX12_bookLine 128 = .ok (.iconst 0, 1) := by decide +kernel
theorem dX12_bookLine_129 : decode cX12_bookLine 129 = .ok (.bipush 9, 2) := by decide +kernel
theorem dX12_bookLine_131 : decode cX12_bookLine 131 = .ok (.invokevirtual 181, 3) := by decide +kernel
theorem dX12_bookLine_134 : decode cX12_bookLine 134 = .ok (.ifCond .ne 5, 3) := by decide +kernel
theorem dX12_bookLine_137 : decode cX12_bookLine 137 = .ok (.iconst 0, 1) := by decide +kernel
theorem dX12_bookLine_138 : decode cX12_bookLine 138 = .ok (.ireturn, 1) := by decide +kernel
theorem dX12_bookLine_139 : decode cX12_bookLine 139 = .ok (.aload_n 0, 1) := by decide +kernel
theorem dX12_bookLine_140 : decode cX12_bookLine 140 = .ok (.iconst 0, 1) := by decide +kernel
theorem dX12_bookLine_141 : decode cX12_bookLine 141 = .ok (.iconst 1, 1) := by decide +kernel
theorem dX12_bookLine_142 : decode cX12_bookLine 142 = .ok (.iconst 3, 1) := by decide +kernel
theorem dX12_bookLine_143 : decode cX12_bookLine 143 = .ok (.bipush 40, 2) := by decide +kernel
theorem dX12_bookLine_145 : decode cX12_bookLine 145 = .ok (.invokevirtual 221, 3) := by decide +kernel
theorem dX12_bookLine_148 : decode cX12_bookLine 148 = .ok (.iconst 1, 1) := by decide +kernel
theorem dX12_bookLine_149 : decode cX12_bookLine 149 = .ok (.ireturn, 1) := by decide +kernel
theorem dX12_clueLine_0 : decode cX12_clueLine 0 = .ok (.lload_n 1, 1) := by decide +kernel
theorem dX12_clueLine_1 : decode cX12_clueLine 1 = .ok (.ldc2_w 247, 3) := by decide +kernel
theorem dX12_clueLine_4 : decode cX12_clueLine 4 = .ok (.lcmp, 1) := by decide +kernel
theorem dX12_clueLine_5 : decode cX12_clueLine 5 = .ok (.ifCond .ne 7, 3) := by decide +kernel
theorem dX12_clueLine_8 : decode cX12_clueLine 8 = .ok (.iconst 0, 1) := by decide +kernel
theorem dX12_clueLine_9 : decode cX12_clueLine 9 = .ok (.goto 40, 3) := by decide +kernel
theorem dX12_clueLine_12 : decode cX12_clueLine 12 = .ok (.lload_n 1, 1) := by decide +kernel
theorem dX12_clueLine_13 : decode cX12_clueLine 13 = .ok (.ldc2_w 249, 3) := by decide +kernel
theorem dX12_clueLine_16 : decode cX12_clueLine 16 = .ok (.lcmp, 1) := by decide +kernel
theorem dX12_clueLine_17 : decode cX12_clueLine 17 = .ok (.ifCond .ne 7, 3) := by decide +kernel
theorem dX12_clueLine_20 : decode cX12_clueLine 20 = .ok (.iconst 1, 1) := by decide +kernel
theorem dX12_clueLine_21 : decode cX12_clueLine 21 = .ok (.goto 28, 3) := by decide +kernel
theorem dX12_clueLine_24 : decode cX12_clueLine 24 = .ok (.lload_n 1, 1) := by decide +kernel
theorem dX12_clueLine_25 : decode cX12_clueLine 25 = .ok (.ldc2_w 251, 3) := by decide +kernel
theorem dX12_clueLine_28 : decode cX12_clueLine 28 = .ok (.lcmp, 1) := by decide +kernel
theorem dX12_clueLine_29 : decode cX12_clueLine 29 = .ok (.ifCond .ne 7, 3) := by decide +kernel
theorem dX12_clueLine_32 : decode cX12_clueLine 32 = .ok (.iconst 2, 1) := by decide +kernel
theorem dX12_clueLine_33 : decode cX12_clueLine 33 = .ok (.goto 16, 3) := by decide +kernel
theorem dX12_clueLine_36 : decode cX12_clueLine 36 = .ok (.lload_n 1, 1) := by decide +kernel
theorem dX12_clueLine_37 : decode cX12_clueLine 37 = .ok (.ldc2_w 253, 3) := by decide +kernel
theorem dX12_clueLine_40 : decode cX12_clueLine 40 = .ok (.lcmp, 1) := by decide +kernel
theorem dX12_clueLine_41 : decode cX12_clueLine 41 = .ok (.ifCond .ne 7, 3) := by decide +kernel
theorem dX12_clueLine_44 : decode cX12_clueLine 44 = .ok (.iconst 3, 1) := by decide +kernel
theorem dX12_clueLine_45 : decode cX12_clueLine 45 = .ok (.goto 4, 3) := by decide +kernel
theorem dX12_clueLine_48 : decode cX12_clueLine 48 = .ok (.iconst (-1), 1) := by decide +kernel
theorem dX12_clueLine_49 : decode cX12_clueLine 49 = .ok (.istore 4, 2) := by decide +kernel
theorem dX12_clueLine_51 : decode cX12_clueLine 51 = .ok (.iload 4, 2) := by decide +kernel
theorem dX12_clueLine_53 : decode cX12_clueLine 53 = .ok (.iconst (-1), 1) := by decide +kernel
theorem dX12_clueLine_54 : decode cX12_clueLine 54 = .ok (.if_icmp .ne 16, 3) := by decide +kernel
theorem dX12_clueLine_57 : decode cX12_clueLine 57 = .ok (.lload_n 1, 1) := by decide +kernel
theorem dX12_clueLine_58 : decode cX12_clueLine 58 = .ok (.ldc2_w 255, 3) := by decide +kernel
theorem dX12_clueLine_61 : decode cX12_clueLine 61 = .ok (.lcmp, 1) := by decide +kernel
theorem dX12_clueLine_62 : decode cX12_clueLine 62 = .ok (.ifCond .eq 8, 3) := by decide +kernel
theorem dX12_clueLine_65 : decode cX12_clueLine 65 = .ok (.aload_n 0, 1) := by decide +kernel
theorem dX12_clueLine_66 : decode cX12_clueLine 66 = .ok (.invokevirtual 145, 3) := by decide +kernel
theorem dX12_clueLine_69 : decode cX12_clueLine 69 = .ok (.ireturn, 1) := by decide +kernel
theorem dX12_clueLine_70 : decode cX12_clueLine 70 = .ok (.iload 4, 2) := by decide +kernel
theorem dX12_clueLine_72 : decode cX12_clueLine 72 = .ok (.iconst (-1), 1) := by decide +kernel
theorem dX12_clueLine_73 : decode cX12_clueLine 73 = .ok (.if_icmp .eq 11, 3) := by decide +kernel
theorem dX12_clueLine_76 : decode cX12_clueLine 76 = .ok (.aload_n 0, 1) := by decide +kernel
theorem dX12_clueLine_77 : decode cX12_clueLine 77 = .ok (.iconst 0, 1) := by decide +kernel
theorem dX12_clueLine_78 : decode cX12_clueLine 78 = .ok (.bipush 8, 2) := by decide +kernel
theorem dX12_clueLine_80 : decode cX12_clueLine 80 = .ok (.iload_n 3, 1) := by decide +kernel
theorem dX12_clueLine_81 : decode cX12_clueLine 81 = .ok (.invokevirtual 206, 3) := by decide +kernel
theorem dX12_clueLine_84 : decode cX12_clueLine 84 = .ok (.aload_n 0, 1) := by decide +kernel
theorem dX12_clueLine_85 : decode cX12_clueLine 85 = .ok (.invokevirtual 157, 3) := by decide +kernel
theorem dX12_clueLine_88 : decode cX12_clueLine 88 = .ok (.aload_n 0, 1) := by decide +kernel
theorem dX12_clueLine_89 : decode cX12_clueLine 89 = .ok (.getfield 44, 3) := by decide +kernel
theorem dX12_clueLine_92 : decode cX12_clueLine 92 = .ok (.iconst 1, 1) := by decide +kernel
theorem dX12_clueLine_93 : decode cX12_clueLine 93 = .ok (.iconst (-1), 1) := by decide +kernel
theorem dX12_clueLine_94 : decode cX12_clueLine 94 = .ok (.iastore, 1) := by decide +kernel
theorem dX12_clueLine_95 : decode cX12_clueLine 95 = .ok (.iload 4, 2) := by decide +kernel
theorem dX12_clueLine_97 : decode cX12_clueLine 97 = .ok (.ifCond .gt 14, 3) := by decide +kernel
theorem dX12_clueLine_100 : decode cX12_clueLine 100 = .ok (.aload_n 0, 1) := by decide +kernel
theorem dX12_clueLine_101 : decode cX12_clueLine 101 = .ok (.iconst 1, 1) := by decide +kernel
theorem dX12_clueLine_102 : decode cX12_clueLine 102 = .ok (.iconst 0, 1) := by decide +kernel
theorem dX12_clueLine_103 : decode cX12_clueLine 103 = .ok (.bipush 7, 2) := by decide +kernel
theorem dX12_clueLine_105 : decode cX12_clueLine 105 = .ok (.invokevirtual 181, 3) := by decide +kernel
theorem dX12_clueLine_108 : decode cX12_clueLine 108 = .ok (.ifCond .eq 25, 3) := by decide +kernel
theorem dX12_clueLine_111 : decode cX12_clueLine 111 = .ok (.aload_n 0, 1) := by decide +kernel
theorem dX12_clueLine_112 : decode cX12_clueLine 112 = .ok (.iconst 2, 1) := by decide +kernel
theorem dX12_clueLine_113 : decode cX12_clueLine 113 = .ok (.iconst 0, 1) := by decide +kernel
theorem dX12_clueLine_114 : decode cX12_clueLine 114 = .ok (.iload 4, 2) := by decide +kernel
theorem dX12_clueLine_116 : decode cX12_clueLine 116 = .ok (.iconst (-1), 1) := by decide +kernel
theorem dX12_clueLine_117 : decode cX12_clueLine 117 = .ok (.if_icmp .ne 8, 3) := by decide +kernel
theorem dX12_clueLine_120 : decode cX12_clueLine 120 = .ok (.bipush 10, 2) := by decide +kernel
theorem dX12_clueLine_122 : decode cX12_clueLine 122 = .ok (.goto 5, 3) := by decide +kernel
theorem dX12_clueLine_125 : decode cX12_clueLine 125 = .ok (.bipush 7, 2) := by decide +kernel
theorem dX12_clueLine_127 : decode cX12_clueLine 127 = .ok (.invokevirtual 181, 3) := by decide +kernel
theorem dX12_clueLine_130 : decode cX12_clueLine 130 = .ok (.ifCond .ne 5, 3) := by decide +kernel
theorem dX12_clueLine_133 : decode cX12_clueLine 133 = .ok (.iconst 0, 1) := by decide +kernel
theorem dX12_clueLine_134 : decode cX12_clueLine 134 = .ok (.ireturn, 1) := by decide +kernel
theorem dX12_clueLine_135 : decode cX12_clueLine 135 = .ok (.aload_n 0, 1) := by decide +kernel
theorem dX12_clueLine_136 : decode cX12_clueLine 136 = .ok (.getfield 44, 3) := by decide +kernel
theorem dX12_clueLine_139 : decode cX12_clueLine 139 = .ok (.iconst 0, 1) := by decide +kernel
theorem dX12_clueLine_140 : decode cX12_clueLine 140 = .ok (.iload 4, 2) := by decide +kernel
theorem dX12_clueLine_142 : decode cX12_clueLine 142 = .ok (.iastore, 1) := by decide +kernel
theorem dX12_clueLine_143 : decode cX12_clueLine 143 = .ok (.iload 4, 2) := by decide +kernel
theorem dX12_clueLine_145 : decode cX12_clueLine 145 = .ok (.iconst (-1), 1) := by decide +kernel
theorem dX12_clueLine_146 : decode cX12_clueLine 146 = .ok (.if_icmp .eq 16, 3) := by decide +kernel
theorem dX12_clueLine_149 : decode cX12_clueLine 149 = .ok (.aload_n 0, 1) := by decide +kernel
theorem dX12_clueLine_150 : decode cX12_clueLine 150 = .ok (.iconst 0, 1) := by decide +kernel
theorem dX12_clueLine_151 : decode cX12_clueLine 151 = .ok (.bipush 9, 2) := by decide +kernel
theorem dX12_clueLine_153 : decode cX12_clueLine 153 = .ok (.iconst 3, 1) := by decide +kernel
theorem dX12_clueLine_154 : decode cX12_clueLine 154 = .ok (.bipush 8, 2) := by decide +kernel
theorem dX12_clueLine_156 : decode cX12_clueLine 156 = .ok (.invokevirtual 221, 3) := by decide +kernel
theorem dX12_clueLine_159 : decode cX12_clueLine 159 = .ok (.goto 29, 3) := by decide +kernel
theorem dX12_clueLine_162 : decode cX12_clueLine 162 = .ok (.aload_n 0, 1) := by decide +kernel
theorem dX12_clueLine_163 : decode cX12_clueLine 163 = .ok (.getfield 153, 3) := by decide +kernel
theorem dX12_clueLine_166 : decode cX12_clueLine 166 = .ok (.ifCond .eq 22, 3) := by decide +kernel
theorem dX12_clueLine_169 : decode cX12_clueLine 169 = .ok (.aload_n 0, 1) := by decide +kernel
theorem dX12_clueLine_170 : decode cX12_clueLine 170 = .ok (.getfield 41, 3) := by decide +kernel
theorem dX12_clueLine_173 : decode cX12_clueLine 173 = .ok (.iconst 1, 1) := by decide +kernel
theorem dX12_clueLine_174 : decode cX12_clueLine 174 = .ok (.aload_n 0, 1) := by decide +kernel
theorem dX12_clueLine_175 : decode cX12_clueLine 175 = .ok (.getfield 44, 3) := by decide +kernel
theorem dX12_clueLine_178 : decode cX12_clueLine 178 = .ok (.iconst 1, 1) := by decide +kernel
theorem dX12_clueLine_179 : decode cX12_clueLine 179 = .ok (.iaload, 1) := by decide +kernel
theorem dX12_clueLine_180 : decode cX12_clueLine 180 = .ok (.iadd, 1) := by decide +kernel
theorem dX12_clueLine_181 : decode cX12_clueLine 181 = .ok (.aload_n 0, 1) := by decide +kernel
theorem dX12_clueLine_182 : decode cX12_clueLine 182 = .ok (.getfield 44, 3) := by decide +kernel
theorem dX12_clueLine_185 : decode cX12_clueLine 185 = .ok (.iconst 2, 1) := by decide +kernel
theorem dX12_clueLine_186 : decode cX12_clueLine 186 = .ok (.iaload, 1) := by decide +kernel
theorem dX12_clueLine_187 : decode cX12_clueLine 187 = .ok (.iastore, 1) := by decide +kernel
theorem dX12_clueLine_188 : decode cX12_clueLine 188 = .ok (.iconst 1, 1) := by decide +kernel
theorem dX12_clueLine_189 : decode cX12_clueLine 189 = .ok (.ireturn, 1) := by decide +kernel
theorem dX12_groundLine_0 : decode cX12_groundLine 0 = .ok (.lload_n 1, 1) := by decide +kernel
theorem dX12_groundLine_1 : decode cX12_groundLine 1 = .ok (.ldc2_w 257, 3) := by decide +kernel
theorem dX12_groundLine_4 : decode cX12_groundLine 4 = .ok (.lcmp, 1) := by decide +kernel
theorem dX12_groundLine_5 : decode cX12_groundLine 5 = .ok (.ifCond .eq 8, 3) := by decide +kernel
theorem dX12_groundLine_8 : decode cX12_groundLine 8 = .ok (.aload_n 0, 1) := by decide +kernel
theorem dX12_groundLine_9 : decode cX12_groundLine 9 = .ok (.invokevirtual 145, 3) := by decide +kernel
theorem dX12_groundLine_12 : decode cX12_groundLine 12 = .ok (.ireturn, 1) := by decide +kernel
theorem dX12_groundLine_13 : decode cX12_groundLine 13 = .ok (.aload_n 0, 1) := by decide +kernel
theorem dX12_groundLine_14 : decode cX12_groundLine 14 = .ok (.iconst 0, 1) := by decide +kernel
theorem dX12_groundLine_15 : decode cX12_groundLine 15 = .ok (.bipush 25, 2) := by decide +kernel
theorem dX12_groundLine_17 : decode cX12_groundLine 17 = .ok (.iload_n 3, 1) := by decide +kernel
theorem dX12_groundLine_18 : decode cX12_groundLine 18 = .ok (.invokevirtual 206, 3) := by decide +kernel
theorem dX12_groundLine_21 : decode cX12_groundLine 21 = .ok (.aload_n 0, 1) := by decide +kernel
theorem dX12_groundLine_22 : decode cX12_groundLine 22 = .ok (.invokevirtual 157, 3) := by decide +kernel
theorem dX12_groundLine_25 : decode cX12_groundLine 25 = .ok (.aload_n 0, 1) := by decide +kernel
theorem dX12_groundLine_26 : decode cX12_groundLine 26 = .ok (.iconst 0, 1) := by decide +kernel
theorem dX12_groundLine_27 : decode cX12_groundLine 27 = .ok (.iconst 0, 1) := by decide +kernel
theorem dX12_groundLine_28 : decode cX12_groundLine 28 = .ok (.bipush 24, 2) := by decide +kernel
theorem dX12_groundLine_30 : decode cX12_groundLine 30 = .ok (.invokevirtual 181, 3) := by decide +kernel
theorem dX12_groundLine_33 : decode cX12_groundLine 33 = .ok (.ifCond .eq 14, 3) := by decide +kernel
theorem dX12_groundLine_36 : decode cX12_groundLine 36 = .ok (.aload_n 0, 1) := by decide +kernel
theorem dX12_groundLine_37 : decode cX12_groundLine 37 = .ok (.iconst 1, 1) := by decide +kernel
theorem dX12_groundLine_38 : decode cX12_groundLine 38 = .ok (.iconst 1, 1) := by decide +kernel
theorem dX12_groundLine_39 : decode cX12_groundLine 39 = .ok (.bipush 9, 2) := by decide +kernel
theorem dX12_groundLine_41 : decode cX12_groundLine 41 = .ok (.invokevirtual 181, 3) := by decide +kernel
theorem dX12_groundLine_44 : decode cX12_groundLine 44 = .ok (.ifCond .ne 5, 3) := by decide +kernel
theorem dX12_groundLine_47 : decode cX12_groundLine 47 = .ok (.iconst 0, 1) := by decide +kernel
theorem dX12_groundLine_48 : decode cX12_groundLine 48 = .ok (.ireturn, 1) := by decide +kernel
theorem dX12_groundLine_49 : decode cX12_groundLine 49 = .ok (.aload_n 0, 1) := by decide +kernel
theorem dX12_groundLine_50 : decode cX12_groundLine 50 = .ok (.iconst 0, 1) := by decide +kernel
theorem dX12_groundLine_51 : decode cX12_groundLine 51 = .ok (.iconst 1, 1) := by decide +kernel
theorem dX12_groundLine_52 : decode cX12_groundLine 52 = .ok (.iconst 2, 1) := by decide +kernel
theorem dX12_groundLine_53 : decode cX12_groundLine 53 = .ok (.bipush 25, 2) := by decide +kernel
theorem dX12_groundLine_55 : decode cX12_groundLine 55 = .ok (.invokevirtual 221, 3) := by decide +kernel
theorem dX12_groundLine_58 : decode cX12_groundLine 58 = .ok (.iconst 1, 1) := by decide +kernel
theorem dX12_groundLine_59 : decode cX12_groundLine 59 = .ok (.ireturn, 1) := by decide +kernel
theorem dX12_recordLine_0 : decode cX12_recordLine 0 = .ok (.lload_n 1, 1) := by decide +kernel
theorem dX12_recordLine_1 : decode cX12_recordLine 1 = .ok (.ldc2_w 259, 3) := by decide +kernel
theorem dX12_recordLine_4 : decode cX12_recordLine 4 = .ok (.lcmp, 1) := by decide +kernel
theorem dX12_recordLine_5 : decode cX12_recordLine 5 = .ok (.ifCond .eq 11, 3) := by decide +kernel
theorem dX12_recordLine_8 : decode cX12_recordLine 8 = .ok (.lload_n 1, 1) := by decide +kernel
theorem dX12_recordLine_9 : decode cX12_recordLine 9 = .ok (.ldc2_w 261, 3) := by decide +kernel
theorem dX12_recordLine_12 : decode cX12_recordLine 12 = .ok (.lcmp, 1) := by decide +kernel
theorem dX12_recordLine_13 : decode cX12_recordLine 13 = .ok (.ifCond .ne 7, 3) := by decide +kernel
theorem dX12_recordLine_16 : decode cX12_recordLine 16 = .ok (.iconst 1, 1) := by decide +kernel
theorem dX12_recordLine_17 : decode cX12_recordLine 17 = .ok (.goto 4, 3) := by decide +kernel
theorem dX12_recordLine_20 : decode cX12_recordLine 20 = .ok (.iconst 0, 1) := by decide +kernel
theorem dX12_recordLine_21 : decode cX12_recordLine 21 = .ok (.istore 4, 2) := by decide +kernel
theorem dX12_recordLine_23 : decode cX12_recordLine 23 = .ok (.iload 4, 2) := by decide +kernel
theorem dX12_recordLine_25 : decode cX12_recordLine 25 = .ok (.ifCond .ne 24, 3) := by decide +kernel
theorem dX12_recordLine_28 : decode cX12_recordLine 28 = .ok (.lload_n 1, 1) := by decide +kernel
theorem dX12_recordLine_29 : decode cX12_recordLine 29 = .ok (.ldc2_w 263, 3) := by decide +kernel
theorem dX12_recordLine_32 : decode cX12_recordLine 32 = .ok (.lcmp, 1) := by decide +kernel
theorem dX12_recordLine_33 : decode cX12_recordLine 33 = .ok (.ifCond .eq 16, 3) := by decide +kernel
theorem dX12_recordLine_36 : decode cX12_recordLine 36 = .ok (.lload_n 1, 1) := by decide +kernel
theorem dX12_recordLine_37 : decode cX12_recordLine 37 = .ok (.ldc2_w 265, 3) := by decide +kernel
theorem dX12_recordLine_40 : decode cX12_recordLine 40 = .ok (.lcmp, 1) := by decide +kernel
theorem dX12_recordLine_41 : decode cX12_recordLine 41 = .ok (.ifCond .eq 8, 3) := by decide +kernel
theorem dX12_recordLine_44 : decode cX12_recordLine 44 = .ok (.aload_n 0, 1) := by decide +kernel
theorem dX12_recordLine_45 : decode cX12_recordLine 45 = .ok (.invokevirtual 145, 3) := by decide +kernel
theorem dX12_recordLine_48 : decode cX12_recordLine 48 = .ok (.ireturn, 1) := by decide +kernel
theorem dX12_recordLine_49 : decode cX12_recordLine 49 = .ok (.aload_n 0, 1) := by decide +kernel
theorem dX12_recordLine_50 : decode cX12_recordLine 50 = .ok (.iload 4, 2) := by decide +kernel
theorem dX12_recordLine_52 : decode cX12_recordLine 52 = .ok (.ifCond .eq 7, 3) := by decide +kernel
theorem dX12_recordLine_55 : decode cX12_recordLine 55 = .ok (.iconst 0, 1) := by decide +kernel
theorem dX12_recordLine_56 : decode cX12_recordLine 56 = .ok (.goto 4, 3) := by decide +kernel
theorem dX12_recordLine_59 : decode cX12_recordLine 59 = .ok (.iconst 1, 1) := by decide +kernel
theorem dX12_recordLine_60 : decode cX12_recordLine 60 = .ok (.iload 4, 2) := by decide +kernel
theorem dX12_recordLine_62 : decode cX12_recordLine 62 = .ok (.ifCond .eq 8, 3) := by decide +kernel
theorem dX12_recordLine_65 : decode cX12_recordLine 65 = .ok (.bipush 40, 2) := by decide +kernel
theorem dX12_recordLine_67 : decode cX12_recordLine 67 = .ok (.goto 5, 3) := by decide +kernel
theorem dX12_recordLine_70 : decode cX12_recordLine 70 = .ok (.bipush 15, 2) := by decide +kernel
theorem dX12_recordLine_72 : decode cX12_recordLine 72 = .ok (.iload_n 3, 1) := by decide +kernel
theorem dX12_recordLine_73 : decode cX12_recordLine 73 = .ok (.invokevirtual 206, 3) := by decide +kernel
theorem dX12_recordLine_76 : decode cX12_recordLine 76 = .ok (.aload_n 0, 1) := by decide +kernel
theorem dX12_recordLine_77 : decode cX12_recordLine 77 = .ok (.invokevirtual 157, 3) := by decide +kernel
theorem dX12_recordLine_80 : decode cX12_recordLine 80 = .ok (.aload_n 0, 1) := by decide +kernel
theorem dX12_recordLine_81 : decode cX12_recordLine 81 = .ok (.getfield 44, 3) := by decide +kernel
theorem dX12_recordLine_84 : decode cX12_recordLine 84 = .ok (.iconst 0, 1) := by decide +kernel
theorem dX12_recordLine_85 : decode cX12_recordLine 85 = .ok (.lload_n 1, 1) := by decide +kernel
theorem dX12_recordLine_86 : decode cX12_recordLine 86 = .ok (.ldc2_w 263, 3) := by decide +kernel
theorem dX12_recordLine_89 : decode cX12_recordLine 89 = .ok (.lcmp, 1) := by decide +kernel
theorem dX12_recordLine_90 : decode cX12_recordLine 90 = .ok (.ifCond .ne 7, 3) := by decide +kernel
theorem dX12_recordLine_93 : decode cX12_recordLine 93 = .ok (.iconst 1, 1) := by decide +kernel
theorem dX12_recordLine_94 : decode cX12_recordLine 94 = .ok (.goto 4, 3) := by decide +kernel
theorem dX12_recordLine_97 : decode cX12_recordLine 97 = .ok (.iconst 0, 1) := by decide +kernel
theorem dX12_recordLine_98 : decode cX12_recordLine 98 = .ok (.iastore, 1) := by decide +kernel
theorem dX12_recordLine_99 : decode cX12_recordLine 99 = .ok (.iload 4, 2) := by decide +kernel
theorem dX12_recordLine_101 : decode cX12_recordLine 101 = .ok (.ifCond .eq 16, 3) := by decide +kernel
theorem dX12_recordLine_104 : decode cX12_recordLine 104 = .ok (.aload_n 0, 1) := by decide +kernel
theorem dX12_recordLine_105 : decode cX12_recordLine 105 = .ok (.iconst 0, 1) := by decide +kernel
theorem dX12_recordLine_106 : decode cX12_recordLine 106 = .ok (.iconst 0, 1) := by decide +kernel
theorem dX12_recordLine_107 : decode cX12_recordLine 107 = .ok (.bipush 7, 2) := by decide +kernel
theorem dX12_recordLine_109 : decode cX12_recordLine 109 = .ok (.invokevirtual 181, 3) := by decide +kernel
theorem dX12_recordLine_112 : decode cX12_recordLine 112 = .ok (.ifCond .ne 5, 3) := by decide +kernel
theorem dX12_recordLine_115 : decode cX12_recordLine 115 = .ok (.iconst 0, 1) := by decide +kernel
theorem dX12_recordLine_116 : decode cX12_recordLine 116 = .ok (.ireturn, 1) := by decide +kernel
theorem dX12_recordLine_117 : decode cX12_recordLine 117 = .ok (.aload_n 0, 1) := by decide +kernel
theorem dX12_recordLine_118 : decode cX12_recordLine 118 = .ok (.getfield 44, 3) := by decide +kernel
theorem dX12_recordLine_121 : decode cX12_recordLine 121 = .ok (.iconst 1, 1) := by decide +kernel
theorem dX12_recordLine_122 : decode cX12_recordLine 122 = .ok (.lload_n 1, 1) := by decide +kernel
theorem dX12_recordLine_123 : decode cX12_recordLine 123 = .ok (.ldc2_w 259, 3) := by decide +kernel
theorem dX12_recordLine_126 : decode cX12_recordLine 126 = .ok (.lcmp, 1) := by decide +kernel
theorem dX12_recordLine_127 : decode cX12_recordLine 127 = .ok (.ifCond .ne 7, 3) := by decide +kernel
theorem dX12_recordLine_130 : decode cX12_recordLine 130 = .ok (.iconst 1, 1) := by decide +kernel
theorem dX12_recordLine_131 : decode cX12_recordLine 131 = .ok (.goto 4, 3) := by decide +kernel
theorem dX12_recordLine_134 : decode cX12_recordLine 134 = .ok (.iconst 0, 1) := by decide +kernel
theorem dX12_recordLine_135 : decode cX12_recordLine 135 = .ok (.iastore, 1) := by decide +kernel
theorem dX12_recordLine_136 : decode cX12_recordLine 136 = .ok (.iload 4, 2) := by decide +kernel
theorem dX12_recordLine_138 : decode cX12_recordLine 138 = .ok (.ifCond .eq 15, 3) := by decide +kernel
theorem dX12_recordLine_141 : decode cX12_recordLine 141 = .ok (.aload_n 0, 1) := by decide +kernel
theorem dX12_recordLine_142 : decode cX12_recordLine 142 = .ok (.iconst 0, 1) := by decide +kernel
theorem dX12_recordLine_143 : decode cX12_recordLine 143 = .ok (.iconst 2, 1) := by decide +kernel
theorem dX12_recordLine_144 : decode cX12_recordLine 144 = .ok (.iconst 2, 1) := by decide +kernel
theorem dX12_recordLine_145 : decode cX12_recordLine 145 = .ok (.bipush 40, 2) := by decide +kernel
theorem dX12_recordLine_147 : decode cX12_recordLine 147 = .ok (.invokevirtual 221, 3) := by decide +kernel
theorem dX12_recordLine_150 : decode cX12_recordLine 150 = .ok (.goto 13, 3) := by decide +kernel
theorem dX12_recordLine_153 : decode cX12_recordLine 153 = .ok (.aload_n 0, 1) := by decide +kernel
theorem dX12_recordLine_154 : decode cX12_recordLine 154 = .ok (.iconst 1, 1) := by decide +kernel
theorem dX12_recordLine_155 : decode cX12_recordLine 155 = .ok (.bipush 82, 2) := by decide +kernel
theorem dX12_recordLine_157 : decode cX12_recordLine 157 = .ok (.iconst 1, 1) := by decide +kernel
theorem dX12_recordLine_158 : decode cX12_recordLine 158 = .ok (.bipush 15, 2) := by decide +kernel
theorem dX12_recordLine_160 : decode cX12_recordLine 160 = .ok (.invokevirtual 221, 3) := by decide +kernel
theorem dX12_recordLine_163 : decode cX12_recordLine 163 = .ok (.iconst 1, 1) := by decide +kernel
theorem dX12_recordLine_164 : decode cX12_recordLine 164 = .ok (.ireturn, 1) := by decide +kernel
theorem dX12_lineOf_0 : decode cX12_lineOf 0 = .ok (.iload_n 1, 1) := by decide +kernel
theorem dX12_lineOf_1 : decode cX12_lineOf 1 = .ok (.tableswitch 63 0 3 #[31, 39, 47, 55], 31) := by decide +kernel
theorem dX12_lineOf_32 : decode cX12_lineOf 32 = .ok (.aload_n 0, 1) := by decide +kernel
theorem dX12_lineOf_33 : decode cX12_lineOf 33 = .ok (.lload_n 2, 1) := by decide +kernel
theorem dX12_lineOf_34 : decode cX12_lineOf 34 = .ok (.iload 4, 2) := by decide +kernel
theorem dX12_lineOf_36 : decode cX12_lineOf 36 = .ok (.invokevirtual 267, 3) := by decide +kernel
theorem dX12_lineOf_39 : decode cX12_lineOf 39 = .ok (.ireturn, 1) := by decide +kernel
theorem dX12_lineOf_40 : decode cX12_lineOf 40 = .ok (.aload_n 0, 1) := by decide +kernel
theorem dX12_lineOf_41 : decode cX12_lineOf 41 = .ok (.lload_n 2, 1) := by decide +kernel
theorem dX12_lineOf_42 : decode cX12_lineOf 42 = .ok (.iload 4, 2) := by decide +kernel
theorem dX12_lineOf_44 : decode cX12_lineOf 44 = .ok (.invokevirtual 271, 3) := by decide +kernel
theorem dX12_lineOf_47 : decode cX12_lineOf 47 = .ok (.ireturn, 1) := by decide +kernel
theorem dX12_lineOf_48 : decode cX12_lineOf 48 = .ok (.aload_n 0, 1) := by decide +kernel
theorem dX12_lineOf_49 : decode cX12_lineOf 49 = .ok (.lload_n 2, 1) := by decide +kernel
theorem dX12_lineOf_50 : decode cX12_lineOf 50 = .ok (.iload 4, 2) := by decide +kernel
theorem dX12_lineOf_52 : decode cX12_lineOf 52 = .ok (.invokevirtual 274, 3) := by decide +kernel
theorem dX12_lineOf_55 : decode cX12_lineOf 55 = .ok (.ireturn, 1) := by decide +kernel
theorem dX12_lineOf_56 : decode cX12_lineOf 56 = .ok (.aload_n 0, 1) := by decide +kernel
theorem dX12_lineOf_57 : decode cX12_lineOf 57 = .ok (.lload_n 2, 1) := by decide +kernel
theorem dX12_lineOf_58 : decode cX12_lineOf 58 = .ok (.iload 4, 2) := by decide +kernel
theorem dX12_lineOf_60 : decode cX12_lineOf 60 = .ok (.invokevirtual 277, 3) := by decide +kernel
theorem dX12_lineOf_63 : decode cX12_lineOf 63 = .ok (.ireturn, 1) := by decide +kernel
theorem dX12_lineOf_64 : decode cX12_lineOf 64 = .ok (.aload_n 0, 1) := by decide +kernel
theorem dX12_lineOf_65 : decode cX12_lineOf 65 = .ok (.lload_n 2, 1) := by decide +kernel
theorem dX12_lineOf_66 : decode cX12_lineOf 66 = .ok (.iload 4, 2) := by decide +kernel
theorem dX12_lineOf_68 : decode cX12_lineOf 68 = .ok (.invokevirtual 280, 3) := by decide +kernel
theorem dX12_lineOf_71 : decode cX12_lineOf 71 = .ok (.ireturn, 1) := by decide +kernel
theorem dX12_lines_0 : decode cX12_lines 0 = .ok (.iconst 1, 1) := by decide +kernel
theorem dX12_lines_1 : decode cX12_lines 1 = .ok (.istore_n 2, 1) := by decide +kernel
theorem dX12_lines_2 : decode cX12_lines 2 = .ok (.iload_n 2, 1) := by decide +kernel
theorem dX12_lines_3 : decode cX12_lines 3 = .ok (.ifCond .eq 71, 3) := by decide +kernel
theorem dX12_lines_6 : decode cX12_lines 6 = .ok (.aload_n 0, 1) := by decide +kernel
theorem dX12_lines_7 : decode cX12_lines 7 = .ok (.getfield 130, 3) := by decide +kernel
theorem dX12_lines_10 : decode cX12_lines 10 = .ok (.ifCond .eq 64, 3) := by decide +kernel
theorem dX12_lines_13 : decode cX12_lines 13 = .ok (.aload_n 0, 1) := by decide +kernel
theorem dX12_lines_14 : decode cX12_lines 14 = .ok (.getfield 123, 3) := by decide +kernel
theorem dX12_lines_17 : decode cX12_lines 17 = .ok (.istore_n 3, 1) := by decide +kernel
theorem dX12_lines_18 : decode cX12_lines 18 = .ok (.aload_n 0, 1) := by decide +kernel
theorem dX12_lines_19 : decode cX12_lines 19 = .ok (.iconst 1, 1) := by decide +kernel
theorem dX12_lines_20 : decode cX12_lines 20 = .ok (.putfield 153, 3) := by decide +kernel
theorem dX12_lines_23 : decode cX12_lines 23 = .ok (.aload_n 0, 1) := by decide +kernel
theorem dX12_lines_24 : decode cX12_lines 24 = .ok (.iload_n 1, 1) := by decide +kernel
theorem dX12_lines_25 : decode cX12_lines 25 = .ok (.aload_n 0, 1) := by decide +kernel
theorem dX12_lines_26 : decode cX12_lines 26 = .ok (.getfield 130, 3) := by decide +kernel
theorem dX12_lines_29 : decode cX12_lines 29 = .ok (.iconst 2, 1) := by decide +kernel
theorem dX12_lines_30 : decode cX12_lines 30 = .ok (.if_icmp .ne 10, 3) := by decide +kernel
theorem dX12_lines_33 : decode cX12_lines 33 = .ok (.aload_n 0, 1) := by decide +kernel
theorem dX12_lines_34 : decode cX12_lines 34 = .ok (.getfield 126, 3) := by decide +kernel
theorem dX12_lines_37 : decode cX12_lines 37 = .ok (.goto 4, 3) := by decide +kernel
theorem dX12_lines_40 : decode cX12_lines 40 = .ok (.lconst 0, 1) := by decide +kernel
theorem dX12_lines_41 : decode cX12_lines 41 = .ok (.iload_n 3, 1) := by decide +kernel
theorem dX12_lines_42 : decode cX12_lines 42 = .ok (.invokevirtual 283, 3) := by decide +kernel
theorem dX12_lines_45 : decode cX12_lines 45 = .ok (.istore_n 2, 1) := by decide +kernel
theorem dX12_lines_46 : decode cX12_lines 46 = .ok (.iload_n 2, 1) := by decide +kernel
theorem dX12_lines_47 : decode cX12_lines 47 = .ok (.ifCond .eq 16, 3) := by decide +kernel
theorem dX12_lines_50 : decode cX12_lines 50 = .ok (.aload_n 0, 1) := by decide +kernel
theorem dX12_lines_51 : decode cX12_lines 51 = .ok (.getfield 130, 3) := by decide +kernel
theorem dX12_lines_54 : decode cX12_lines 54 = .ok (.iconst 4, 1) := by decide +kernel
theorem dX12_lines_55 : decode cX12_lines 55 = .ok (.if_icmp .eq 8, 3) := by decide +kernel
theorem dX12_lines_58 : decode cX12_lines 58 = .ok (.aload_n 0, 1) := by decide +kernel
theorem dX12_lines_59 : decode cX12_lines 59 = .ok (.invokevirtual 145, 3) := by decide +kernel
theorem dX12_lines_62 : decode cX12_lines 62 = .ok (.istore_n 2, 1) := by decide +kernel
theorem dX12_lines_63 : decode cX12_lines 63 = .ok (.iload_n 2, 1) := by decide +kernel
theorem dX12_lines_64 : decode cX12_lines 64 = .ok (.ifCond .eq 7, 3) := by decide +kernel
theorem dX12_lines_67 : decode cX12_lines 67 = .ok (.aload_n 0, 1) := by decide +kernel
theorem dX12_lines_68 : decode cX12_lines 68 = .ok (.invokevirtual 157, 3) := by decide +kernel
theorem dX12_lines_71 : decode cX12_lines 71 = .ok (.goto (-69), 3) := by decide +kernel
theorem dX12_lines_74 : decode cX12_lines 74 = .ok (.iload_n 2, 1) := by decide +kernel
theorem dX12_lines_75 : decode cX12_lines 75 = .ok (.ireturn, 1) := by decide +kernel
theorem dX12_begin_0 : decode cX12_begin 0 = .ok (.iconst 0, 1) := by decide +kernel
theorem dX12_begin_1 : decode cX12_begin 1 = .ok (.istore_n 2, 1) := by decide +kernel
theorem dX12_begin_2 : decode cX12_begin 2 = .ok (.iload_n 2, 1) := by decide +kernel
theorem dX12_begin_3 : decode cX12_begin 3 = .ok (.sipush 132, 3) := by decide +kernel
theorem dX12_begin_6 : decode cX12_begin 6 = .ok (.if_icmp .ge 16, 3) := by decide +kernel
theorem dX12_begin_9 : decode cX12_begin 9 = .ok (.aload_n 0, 1) := by decide +kernel
theorem dX12_begin_10 : decode cX12_begin 10 = .ok (.getfield 41, 3) := by decide +kernel
theorem dX12_begin_13 : decode cX12_begin 13 = .ok (.iload_n 2, 1) := by decide +kernel
theorem dX12_begin_14 : decode cX12_begin 14 = .ok (.iconst 0, 1) := by decide +kernel
theorem dX12_begin_15 : decode cX12_begin 15 = .ok (.iastore, 1) := by decide +kernel
theorem dX12_begin_16 : decode cX12_begin 16 = .ok (.iinc 2 1, 3) := by decide +kernel
theorem dX12_begin_19 : decode cX12_begin 19 = .ok (.goto (-17), 3) := by decide +kernel
theorem dX12_begin_22 : decode cX12_begin 22 = .ok (.aload_n 0, 1) := by decide +kernel
theorem dX12_begin_23 : decode cX12_begin 23 = .ok (.iconst (-1), 1) := by decide +kernel
theorem dX12_begin_24 : decode cX12_begin 24 = .ok (.putfield 164, 3) := by decide +kernel
theorem dX12_begin_27 : decode cX12_begin 27 = .ok (.iconst 0, 1) := by decide +kernel
theorem dX12_begin_28 : decode cX12_begin 28 = .ok (.istore_n 2, 1) := by decide +kernel
theorem dX12_begin_29 : decode cX12_begin 29 = .ok (.iload_n 2, 1) := by decide +kernel
theorem dX12_begin_30 : decode cX12_begin 30 = .ok (.bipush 8, 2) := by decide +kernel
theorem dX12_begin_32 : decode cX12_begin 32 = .ok (.if_icmp .ge 23, 3) := by decide +kernel
theorem dX12_begin_35 : decode cX12_begin 35 = .ok (.iload_n 1, 1) := by decide +kernel
theorem dX12_begin_36 : decode cX12_begin 36 = .ok (.iconst 2, 1) := by decide +kernel
theorem dX12_begin_37 : decode cX12_begin 37 = .ok (.if_icmp .ne 18, 3) := by decide +kernel
theorem dX12_begin_40 : decode cX12_begin 40 = .ok (.aload_n 0, 1) := by decide +kernel
theorem dX12_begin_41 : decode cX12_begin 41 = .ok (.getfield 41, 3) := by decide +kernel
theorem dX12_begin_44 : decode cX12_begin 44 = .ok (.iconst 1, 1) := by decide +kernel
theorem dX12_begin_45 : decode cX12_begin 45 = .ok (.iload_n 2, 1) := by decide +kernel
theorem dX12_begin_46 : decode cX12_begin 46 = .ok (.iadd, 1) := by decide +kernel
theorem dX12_begin_47 : decode cX12_begin 47 = .ok (.iconst 5, 1) := by decide +kernel
theorem dX12_begin_48 : decode cX12_begin 48 = .ok (.iastore, 1) := by decide +kernel
theorem dX12_begin_49 : decode cX12_begin 49 = .ok (.iinc 2 1, 3) := by decide +kernel
theorem dX12_begin_52 : decode cX12_begin 52 = .ok (.goto (-23), 3) := by decide +kernel
theorem dX12_begin_55 : decode cX12_begin 55 = .ok (.iload_n 1, 1) := by decide +kernel
theorem dX12_begin_56 : decode cX12_begin 56 = .ok (.ifCond .ne 100, 3) := by decide +kernel
theorem dX12_begin_59 : decode cX12_begin 59 = .ok (.aload_n 0, 1) := by decide +kernel
theorem dX12_begin_60 : decode cX12_begin 60 = .ok (.getfield 41, 3) := by decide +kernel
theorem dX12_begin_63 : decode cX12_begin 63 = .ok (.iconst 2, 1) := by decide +kernel
theorem dX12_begin_64 : decode cX12_begin 64 = .ok (.iconst 3, 1) := by decide +kernel
theorem dX12_begin_65 : decode cX12_begin 65 = .ok (.iastore, 1) := by decide +kernel
theorem dX12_begin_66 : decode cX12_begin 66 = .ok (.aload_n 0, 1) := by decide +kernel
theorem dX12_begin_67 : decode cX12_begin 67 = .ok (.getfield 41, 3) := by decide +kernel
theorem dX12_begin_70 : decode cX12_begin 70 = .ok (.iconst 3, 1) := by decide +kernel
theorem dX12_begin_71 : decode cX12_begin 71 = .ok (.bipush 16, 2) := by decide +kernel
theorem dX12_begin_73 : decode cX12_begin 73 = .ok (.iastore, 1) := by decide +kernel
theorem dX12_begin_74 : decode cX12_begin 74 = .ok (.aload_n 0, 1) := by decide +kernel
theorem dX12_begin_75 : decode cX12_begin 75 = .ok (.getfield 41, 3) := by decide +kernel
theorem dX12_begin_78 : decode cX12_begin 78 = .ok (.iconst 4, 1) := by decide +kernel
theorem dX12_begin_79 : decode cX12_begin 79 = .ok (.bipush 20, 2) := by decide +kernel
theorem dX12_begin_81 : decode cX12_begin 81 = .ok (.iastore, 1) := by decide +kernel
theorem dX12_begin_82 : decode cX12_begin 82 = .ok (.aload_n 0, 1) := by decide +kernel
theorem dX12_begin_83 : decode cX12_begin 83 = .ok (.getfield 41, 3) := by decide +kernel
theorem dX12_begin_86 : decode cX12_begin 86 = .ok (.iconst 5, 1) := by decide +kernel
theorem dX12_begin_87 : decode cX12_begin 87 = .ok (.iconst 2, 1) := by decide +kernel
theorem dX12_begin_88 : decode cX12_begin 88 = .ok (.iastore, 1) := by decide +kernel
theorem dX12_begin_89 : decode cX12_begin 89 = .ok (.aload_n 0, 1) := by decide +kernel
theorem dX12_begin_90 : decode cX12_begin 90 = .ok (.getfield 41, 3) := by decide +kernel
theorem dX12_begin_93 : decode cX12_begin 93 = .ok (.bipush 6, 2) := by decide +kernel
theorem dX12_begin_95 : decode cX12_begin 95 = .ok (.iconst 1, 1) := by decide +kernel
theorem dX12_begin_96 : decode cX12_begin 96 = .ok (.iastore, 1) := by decide +kernel
theorem dX12_begin_97 : decode cX12_begin 97 = .ok (.bipush 7, 2) := by decide +kernel
theorem dX12_begin_99 : decode cX12_begin 99 = .ok (.istore_n 2, 1) := by decide +kernel
theorem dX12_begin_100 : decode cX12_begin 100 = .ok (.iload_n 2, 1) := by decide +kernel
theorem dX12_begin_101 : decode cX12_begin 101 = .ok (.bipush 18, 2) := by decide +kernel
theorem dX12_begin_103 : decode cX12_begin 103 = .ok (.if_icmp .ge 16, 3) := by decide +kernel
theorem dX12_begin_106 : decode cX12_begin 106 = .ok (.aload_n 0, 1) := by decide +kernel
theorem dX12_begin_107 : decode cX12_begin 107 = .ok (.getfield 41, 3) := by decide +kernel
theorem dX12_begin_110 : decode cX12_begin 110 = .ok (.iload_n 2, 1) := by decide +kernel
theorem dX12_begin_111 : decode cX12_begin 111 = .ok (.iconst 1, 1) := by decide +kernel
theorem dX12_begin_112 : decode cX12_begin 112 = .ok (.iastore, 1) := by decide +kernel
theorem dX12_begin_113 : decode cX12_begin 113 = .ok (.iinc 2 1, 3) := by decide +kernel
theorem dX12_begin_116 : decode cX12_begin 116 = .ok (.goto (-16), 3) := by decide +kernel
theorem dX12_begin_119 : decode cX12_begin 119 = .ok (.iconst 0, 1) := by decide +kernel
theorem dX12_begin_120 : decode cX12_begin 120 = .ok (.istore_n 2, 1) := by decide +kernel
theorem dX12_begin_121 : decode cX12_begin 121 = .ok (.iload_n 2, 1) := by decide +kernel
theorem dX12_begin_122 : decode cX12_begin 122 = .ok (.bipush 64, 2) := by decide +kernel
theorem dX12_begin_124 : decode cX12_begin 124 = .ok (.if_icmp .ge 32, 3) := by decide +kernel
theorem dX12_begin_127 : decode cX12_begin 127 = .ok (.aload_n 0, 1) := by decide +kernel
theorem dX12_begin_128 : decode cX12_begin 128 = .ok (.getfield 41, 3) := by decide +kernel
theorem dX12_begin_131 : decode cX12_begin 131 = .ok (.bipush 28, 2) := by decide +kernel
theorem dX12_begin_133 : decode cX12_begin 133 = .ok (.bipush 13, 2) := by decide +kernel
theorem dX12_begin_135 : decode cX12_begin 135 = .ok (.iload_n 2, 1) := by decide +kernel
theorem dX12_begin_136 : decode cX12_begin 136 = .ok (.bipush 8, 2) := by decide +kernel
theorem dX12_begin_138 : decode cX12_begin 138 = .ok (.idiv, 1) := by decide +kernel
theorem dX12_begin_139 : decode cX12_begin 139 = .ok (.imul, 1) := by decide +kernel
theorem dX12_begin_140 : decode cX12_begin 140 = .ok (.iadd, 1) := by decide +kernel
theorem dX12_begin_141 : decode cX12_begin 141 = .ok (.iconst 5, 1) := by decide +kernel
theorem dX12_begin_142 : decode cX12_begin 142 = .ok (.iadd, 1) := by decide +kernel
theorem dX12_begin_143 : decode cX12_begin 143 = .ok (.iload_n 2, 1) := by decide +kernel
theorem dX12_begin_144 : decode cX12_begin 144 = .ok (.bipush 8, 2) := by decide +kernel
theorem dX12_begin_146 : decode cX12_begin 146 = .ok (.irem, 1) := by decide +kernel
theorem dX12_begin_147 : decode cX12_begin 147 = .ok (.iadd, 1) := by decide +kernel
theorem dX12_begin_148 : decode cX12_begin 148 = .ok (.iconst 1, 1) := by decide +kernel
theorem dX12_begin_149 : decode cX12_begin 149 = .ok (.iastore, 1) := by decide +kernel
theorem dX12_begin_150 : decode cX12_begin 150 = .ok (.iinc 2 1, 3) := by decide +kernel
theorem dX12_begin_153 : decode cX12_begin 153 = .ok (.goto (-32), 3) := by decide +kernel
theorem dX12_begin_156 : decode cX12_begin 156 = .ok (.return_, 1) := by decide +kernel
theorem dX12_isStill_0 : decode cX12_isStill 0 = .ok (.iconst 0, 1) := by decide +kernel
theorem dX12_isStill_1 : decode cX12_isStill 1 = .ok (.istore_n 1, 1) := by decide +kernel
theorem dX12_isStill_2 : decode cX12_isStill 2 = .ok (.iload_n 1, 1) := by decide +kernel
theorem dX12_isStill_3 : decode cX12_isStill 3 = .ok (.bipush 8, 2) := by decide +kernel
theorem dX12_isStill_5 : decode cX12_isStill 5 = .ok (.if_icmp .ge 23, 3) := by decide +kernel
theorem dX12_isStill_8 : decode cX12_isStill 8 = .ok (.aload_n 0, 1) := by decide +kernel
theorem dX12_isStill_9 : decode cX12_isStill 9 = .ok (.getfield 41, 3) := by decide +kernel
theorem dX12_isStill_12 : decode cX12_isStill 12 = .ok (.bipush 7, 2) := by decide +kernel
theorem dX12_isStill_14 : decode cX12_isStill 14 = .ok (.iload_n 1, 1) := by decide +kernel
theorem dX12_isStill_15 : decode cX12_isStill 15 = .ok (.iadd, 1) := by decide +kernel
theorem dX12_isStill_16 : decode cX12_isStill 16 = .ok (.iaload, 1) := by decide +kernel
theorem dX12_isStill_17 : decode cX12_isStill 17 = .ok (.ifCond .le 5, 3) := by decide +kernel
theorem dX12_isStill_20 : decode cX12_isStill 20 = .ok (.iconst 0, 1) := by decide +kernel
theorem dX12_isStill_21 : decode cX12_isStill 21 = .ok (.ireturn, 1) := by decide +kernel
theorem dX12_isStill_22 : decode cX12_isStill 22 = .ok (.iinc 1 1, 3) := by decide +kernel
theorem dX12_isStill_25 : decode cX12_isStill 25 = .ok (.goto (-23), 3) := by decide +kernel
theorem dX12_isStill_28 : decode cX12_isStill 28 = .ok (.iconst 1, 1) := by decide +kernel
theorem dX12_isStill_29 : decode cX12_isStill 29 = .ok (.ireturn, 1) := by decide +kernel
theorem dX12_readText_0 : decode cX12_readText 0 = .ok (.aload_n 0, 1) := by decide +kernel
theorem dX12_readText_1 : decode cX12_readText 1 = .ok (.iload_n 1, 1) := by decide +kernel
theorem dX12_readText_2 : decode cX12_readText 2 = .ok (.invokevirtual 287, 3) := by decide +kernel
theorem dX12_readText_5 : decode cX12_readText 5 = .ok (.aload_n 0, 1) := by decide +kernel
theorem dX12_readText_6 : decode cX12_readText 6 = .ok (.iconst 0, 1) := by decide +kernel
theorem dX12_readText_7 : decode cX12_readText 7 = .ok (.putfield 113, 3) := by decide +kernel
theorem dX12_readText_10 : decode cX12_readText 10 = .ok (.aload_n 0, 1) := by decide +kernel
theorem dX12_readText_11 : decode cX12_readText 11 = .ok (.iconst 0, 1) := by decide +kernel
theorem dX12_readText_12 : decode cX12_readText 12 = .ok (.putfield 139, 3) := by decide +kernel
theorem dX12_readText_15 : decode cX12_readText 15 = .ok (.aload_n 0, 1) := by decide +kernel
theorem dX12_readText_16 : decode cX12_readText 16 = .ok (.invokevirtual 157, 3) := by decide +kernel
theorem dX12_readText_19 : decode cX12_readText 19 = .ok (.aload_n 0, 1) := by decide +kernel
theorem dX12_readText_20 : decode cX12_readText 20 = .ok (.iload_n 1, 1) := by decide +kernel
theorem dX12_readText_21 : decode cX12_readText 21 = .ok (.invokevirtual 290, 3) := by decide +kernel
theorem dX12_readText_24 : decode cX12_readText 24 = .ok (.istore_n 2, 1) := by decide +kernel
theorem dX12_readText_25 : decode cX12_readText 25 = .ok (.iload_n 2, 1) := by decide +kernel
theorem dX12_readText_26 : decode cX12_readText 26 = .ok (.ifCond .eq 61, 3) := by decide +kernel
theorem dX12_readText_29 : decode cX12_readText 29 = .ok (.iload_n 1, 1) := by decide +kernel
theorem dX12_readText_30 : decode cX12_readText 30 = .ok (.ifCond .ne 57, 3) := by decide +kernel
theorem dX12_readText_33 : decode cX12_readText 33 = .ok (.aload_n 0, 1) := by decide +kernel
theorem dX12_readText_34 : decode cX12_readText 34 = .ok (.getfield 139, 3) := by decide +kernel
theorem dX12_readText_37 : decode cX12_readText 37 = .ok (.ifCond .ne 50, 3) := by decide +kernel
theorem dX12_readText_40 : decode cX12_readText 40 = .ok (.aload_n 0, 1) := by decide +kernel
theorem dX12_readText_41 : decode cX12_readText 41 = .ok (.getfield 164, 3) := by decide +kernel
theorem dX12_readText_44 : decode cX12_readText 44 = .ok (.aload_n 0, 1) := by decide +kernel
theorem dX12_readText_45 : decode cX12_readText 45 = .ok (.getfield 41, 3) := by decide +kernel
theorem dX12_readText_48 : decode cX12_readText 48 = .ok (.iconst 1, 1) := by decide +kernel
theorem dX12_readText_49 : decode cX12_readText 49 = .ok (.iaload, 1) := by decide +kernel
theorem dX12_readText_50 : decode cX12_readText 50 = .ok (.if_icmp .ge 28, 3) := by decide +kernel
theorem dX12_readText_53 : decode cX12_readText 53 = .ok (.aload_n 0, 1) := by decide +kernel
theorem dX12_readText_54 : decode cX12_readText 54 = .ok (.getfield 41, 3) := by decide +kernel
theorem dX12_readText_57 : decode cX12_readText 57 = .ok (.iconst 0, 1) := by decide +kernel
theorem dX12_readText_58 : decode cX12_readText 58 = .ok (.iaload, 1) := by decide +kernel
theorem dX12_readText_59 : decode cX12_readText 59 = .ok (.ifCond .eq 19, 3) := by decide +kernel
theorem dX12_readText_62 : decode cX12_readText 62 = .ok (.aload_n 0, 1) := by decide +kernel
theorem dX12_readText_63 : decode cX12_readText 63 = .ok (.getfield 41, 3) := by decide +kernel
theorem dX12_readText_66 : decode cX12_readText 66 = .ok (.iconst 1, 1) := by decide +kernel
theorem dX12_readText_67 : decode cX12_readText 67 = .ok (.iaload, 1) := by decide +kernel
theorem dX12_readText_68 : decode cX12_readText 68 = .ok (.ifCond .eq 10, 3) := by decide +kernel
theorem dX12_readText_71 : decode cX12_readText 71 = .ok (.aload_n 0, 1) := by decide +kernel
theorem dX12_readText_72 : decode cX12_readText 72 = .ok (.invokevirtual 294, 3) := by decide +kernel
theorem dX12_readText_75 : decode cX12_readText 75 = .ok (.ifCond .eq 12, 3) := by decide +kernel
theorem dX12_readText_78 : decode cX12_readText 78 = .ok (.aload_n 0, 1) := by decide +kernel
theorem dX12_readText_79 : decode cX12_readText 79 = .ok (.iconst 4, 1) := by decide +kernel
theorem dX12_readText_80 : decode cX12_readText 80 = .ok (.aload_n 0, 1) := by decide +kernel
theorem dX12_readText_81 : decode cX12_readText 81 = .ok (.getfield 123, 3) := by decide +kernel
theorem dX12_readText_84 : decode cX12_readText 84 = .ok (.invokevirtual 149, 3) := by decide +kernel
theorem dX12_readText_87 : decode cX12_readText 87 = .ok (.aload_n 0, 1) := by decide +kernel
theorem dX12_readText_88 : decode cX12_readText 88 = .ok (.getfield 17, 3) := by decide +kernel
theorem dX12_readText_91 : decode cX12_readText 91 = .ok (.iconst 0, 1) := by decide +kernel
theorem dX12_readText_92 : decode cX12_readText 92 = .ok (.iload_n 2, 1) := by decide +kernel
theorem dX12_readText_93 : decode cX12_readText 93 = .ok (.ifCond .eq 10, 3) := by decide +kernel
theorem dX12_readText_96 : decode cX12_readText 96 = .ok (.aload_n 0, 1) := by decide +kernel
theorem dX12_readText_97 : decode cX12_readText 97 = .ok (.getfield 139, 3) := by decide +kernel
theorem dX12_readText_100 : decode cX12_readText 100 = .ok (.goto 4, 3) := by decide +kernel
theorem dX12_readText_103 : decode cX12_readText 103 = .ok (.iconst 1, 1) := by decide +kernel
theorem dX12_readText_104 : decode cX12_readText 104 = .ok (.iastore, 1) := by decide +kernel
theorem dX12_readText_105 : decode cX12_readText 105 = .ok (.aload_n 0, 1) := by decide +kernel
theorem dX12_readText_106 : decode cX12_readText 106 = .ok (.getfield 20, 3) := by decide +kernel
theorem dX12_readText_109 : decode cX12_readText 109 = .ok (.iconst 0, 1) := by decide +kernel
theorem dX12_readText_110 : decode cX12_readText 110 = .ok (.iload_n 2, 1) := by decide +kernel
theorem dX12_readText_111 : decode cX12_readText 111 = .ok (.ifCond .ne 10, 3) := by decide +kernel
theorem dX12_readText_114 : decode cX12_readText 114 = .ok (.aload_n 0, 1) := by decide +kernel
theorem dX12_readText_115 : decode cX12_readText 115 = .ok (.getfield 136, 3) := by decide +kernel
theorem dX12_readText_118 : decode cX12_readText 118 = .ok (.goto 18, 3) := by decide +kernel
theorem dX12_readText_121 : decode cX12_readText 121 = .ok (.aload_n 0, 1) := by decide +kernel
theorem dX12_readText_122 : decode cX12_readText 122 = .ok (.getfield 139, 3) := by decide +kernel
theorem dX12_readText_125 : decode cX12_readText 125 = .ok (.ifCond .le 10, 3) := by decide +kernel
theorem dX12_readText_128 : decode cX12_readText 128 = .ok (.aload_n 0, 1) := by decide +kernel
theorem dX12_readText_129 : decode cX12_readText 129 = .ok (.getfield 142, 3) := by decide +kernel
theorem dX12_readText_132 : decode cX12_readText 132 = .ok (.goto 4, 3) := by decide +kernel
theorem dX12_readText_135 : decode cX12_readText 135 = .ok (.iconst (-1), 1) := by decide +kernel
theorem dX12_readText_136 : decode cX12_readText 136 = .ok (.iastore, 1) := by decide +kernel
theorem dX12_readText_137 : decode cX12_readText 137 = .ok (.aload_n 0, 1) := by decide +kernel
theorem dX12_readText_138 : decode cX12_readText 138 = .ok (.getfield 17, 3) := by decide +kernel
theorem dX12_readText_141 : decode cX12_readText 141 = .ok (.iconst 0, 1) := by decide +kernel
theorem dX12_readText_142 : decode cX12_readText 142 = .ok (.iaload, 1) := by decide +kernel
theorem dX12_readText_143 : decode cX12_readText 143 = .ok (.ifCond .ne 7, 3) := by decide +kernel
theorem dX12_readText_146 : decode cX12_readText 146 = .ok (.iconst 1, 1) := by decide +kernel
theorem dX12_readText_147 : decode cX12_readText 147 = .ok (.goto 4, 3) := by decide +kernel
theorem dX12_readText_150 : decode cX12_readText 150 = .ok (.iconst 0, 1) := by decide +kernel
theorem dX12_readText_151 : decode cX12_readText 151 = .ok (.ireturn, 1) := by decide +kernel
theorem dX12_store_0 : decode cX12_store 0 = .ok (.iconst 0, 1) := by decide +kernel
theorem dX12_store_1 : decode cX12_store 1 = .ok (.istore 4, 2) := by decide +kernel
theorem dX12_store_3 : decode cX12_store 3 = .ok (.iload 4, 2) := by decide +kernel
theorem dX12_store_5 : decode cX12_store 5 = .ok (.iload_n 2, 1) := by decide +kernel
theorem dX12_store_6 : decode cX12_store 6 = .ok (.if_icmp .ge 24, 3) := by decide +kernel
theorem dX12_store_9 : decode cX12_store 9 = .ok (.aload_n 1, 1) := by decide +kernel
theorem dX12_store_10 : decode cX12_store 10 = .ok (.iload_n 2, 1) := by decide +kernel
theorem dX12_store_11 : decode cX12_store 11 = .ok (.iload_n 3, 1) := by decide +kernel
theorem dX12_store_12 : decode cX12_store 12 = .ok (.imul, 1) := by decide +kernel
theorem dX12_store_13 : decode cX12_store 13 = .ok (.iload 4, 2) := by decide +kernel
theorem dX12_store_15 : decode cX12_store 15 = .ok (.iadd, 1) := by decide +kernel
theorem dX12_store_16 : decode cX12_store 16 = .ok (.aload_n 0, 1) := by decide +kernel
theorem dX12_store_17 : decode cX12_store 17 = .ok (.getfield 41, 3) := by decide +kernel
theorem dX12_store_20 : decode cX12_store 20 = .ok (.iload 4, 2) := by decide +kernel
theorem dX12_store_22 : decode cX12_store 22 = .ok (.iaload, 1) := by decide +kernel
theorem dX12_store_23 : decode cX12_store 23 = .ok (.iastore, 1) := by decide +kernel
theorem dX12_store_24 : decode cX12_store 24 = .ok (.iinc 4 1, 3) := by decide +kernel
theorem dX12_store_27 : decode cX12_store 27 = .ok (.goto (-24), 3) := by decide +kernel
theorem dX12_store_30 : decode cX12_store 30 = .ok (.return_, 1) := by decide +kernel
theorem dX12_storeAll_0 : decode cX12_storeAll 0 = .ok (.iload_n 1, 1) := by decide +kernel
theorem dX12_storeAll_1 : decode cX12_storeAll 1 = .ok (.tableswitch 80 0 3 #[31, 44, 56, 68], 31) := by decide +kernel
theorem dX12_storeAll_32 : decode cX12_storeAll 32 = .ok (.aload_n 0, 1) := by decide +kernel
theorem dX12_storeAll_33 : decode cX12_storeAll 33 = .ok (.aload_n 0, 1) := by decide +kernel
theorem dX12_storeAll_34 : decode cX12_storeAll 34 = .ok (.getfield 26, 3) := by decide +kernel
theorem dX12_storeAll_37 : decode cX12_storeAll 37 = .ok (.sipush 132, 3) := by decide +kernel
theorem dX12_storeAll_40 : decode cX12_storeAll 40 = .ok (.iload_n 2, 1) := by decide +kernel
theorem dX12_storeAll_41 : decode cX12_storeAll 41 = .ok (.invokevirtual 297, 3) := by decide +kernel
theorem dX12_storeAll_44 : decode cX12_storeAll 44 = .ok (.return_, 1) := by decide +kernel
theorem dX12_storeAll_45 : decode cX12_storeAll 45 = .ok (.aload_n 0, 1) := by decide +kernel
theorem dX12_storeAll_46 : decode cX12_storeAll 46 = .ok (.aload_n 0, 1) := by decide +kernel
theorem dX12_storeAll_47 : decode cX12_storeAll 47 = .ok (.getfield 29, 3) := by decide +kernel
theorem dX12_storeAll_50 : decode cX12_storeAll 50 = .ok (.bipush 121, 2) := by decide +kernel
theorem dX12_storeAll_52 : decode cX12_storeAll 52 = .ok (.iload_n 2, 1) := by decide +kernel
theorem dX12_storeAll_53 : decode cX12_storeAll 53 = .ok (.invokevirtual 297, 3) := by decide +kernel
theorem dX12_storeAll_56 : decode cX12_storeAll 56 = .ok (.return_, 1) := by decide +kernel
theorem dX12_storeAll_57 : decode cX12_storeAll 57 = .ok (.aload_n 0, 1) := by decide +kernel
theorem dX12_storeAll_58 : decode cX12_storeAll 58 = .ok (.aload_n 0, 1) := by decide +kernel
theorem dX12_storeAll_59 : decode cX12_storeAll 59 = .ok (.getfield 32, 3) := by decide +kernel
theorem dX12_storeAll_62 : decode cX12_storeAll 62 = .ok (.bipush 33, 2) := by decide +kernel
theorem dX12_storeAll_64 : decode cX12_storeAll 64 = .ok (.iload_n 2, 1) := by decide +kernel
theorem dX12_storeAll_65 : decode cX12_storeAll 65 = .ok (.invokevirtual 297, 3) := by decide +kernel
theorem dX12_storeAll_68 : decode cX12_storeAll 68 = .ok (.return_, 1) := by decide +kernel
theorem dX12_storeAll_69 : decode cX12_storeAll 69 = .ok (.aload_n 0, 1) := by decide +kernel
theorem dX12_storeAll_70 : decode cX12_storeAll 70 = .ok (.aload_n 0, 1) := by decide +kernel
theorem dX12_storeAll_71 : decode cX12_storeAll 71 = .ok (.getfield 35, 3) := by decide +kernel
theorem dX12_storeAll_74 : decode cX12_storeAll 74 = .ok (.bipush 51, 2) := by decide +kernel
theorem dX12_storeAll_76 : decode cX12_storeAll 76 = .ok (.iload_n 2, 1) := by decide +kernel
theorem dX12_storeAll_77 : decode cX12_storeAll 77 = .ok (.invokevirtual 297, 3) := by decide +kernel
theorem dX12_storeAll_80 : decode cX12_storeAll 80 = .ok (.return_, 1) := by decide +kernel
theorem dX12_storeAll_81 : decode cX12_storeAll 81 = .ok (.aload_n 0, 1) := by decide +kernel
theorem dX12_storeAll_82 : decode cX12_storeAll 82 = .ok (.aload_n 0, 1) := by decide +kernel
theorem dX12_storeAll_83 : decode cX12_storeAll 83 = .ok (.getfield 38, 3) := by decide +kernel
theorem dX12_storeAll_86 : decode cX12_storeAll 86 = .ok (.bipush 97, 2) := by decide +kernel
theorem dX12_storeAll_88 : decode cX12_storeAll 88 = .ok (.iload_n 2, 1) := by decide +kernel
theorem dX12_storeAll_89 : decode cX12_storeAll 89 = .ok (.invokevirtual 297, 3) := by decide +kernel
theorem dX12_storeAll_92 : decode cX12_storeAll 92 = .ok (.return_, 1) := by decide +kernel
theorem dX12_text_0 : decode cX12_text 0 = .ok (.aload_n 0, 1) := by decide +kernel
theorem dX12_text_1 : decode cX12_text 1 = .ok (.iconst 0, 1) := by decide +kernel
theorem dX12_text_2 : decode cX12_text 2 = .ok (.putfield 97, 3) := by decide +kernel
theorem dX12_text_5 : decode cX12_text 5 = .ok (.aload_n 0, 1) := by decide +kernel
theorem dX12_text_6 : decode cX12_text 6 = .ok (.aload_n 0, 1) := by decide +kernel
theorem dX12_text_7 : decode cX12_text 7 = .ok (.getfield 13, 3) := by decide +kernel
theorem dX12_text_10 : decode cX12_text 10 = .ok (.iconst 0, 1) := by decide +kernel
theorem dX12_text_11 : decode cX12_text 11 = .ok (.iaload, 1) := by decide +kernel
theorem dX12_text_12 : decode cX12_text 12 = .ok (.putfield 116, 3) := by decide +kernel
theorem dX12_text_15 : decode cX12_text 15 = .ok (.aload_n 0, 1) := by decide +kernel
theorem dX12_text_16 : decode cX12_text 16 = .ok (.getfield 13, 3) := by decide +kernel
theorem dX12_text_19 : decode cX12_text 19 = .ok (.iconst 0, 1) := by decide +kernel
theorem dX12_text_20 : decode cX12_text 20 = .ok (.iconst 0, 1) := by decide +kernel
theorem dX12_text_21 : decode cX12_text 21 = .ok (.iastore, 1) := by decide +kernel
theorem dX12_text_22 : decode cX12_text 22 = .ok (.aload_n 0, 1) := by decide +kernel
theorem dX12_text_23 : decode cX12_text 23 = .ok (.getfield 17, 3) := by decide +kernel
theorem dX12_text_26 : decode cX12_text 26 = .ok (.iconst 0, 1) := by decide +kernel
theorem dX12_text_27 : decode cX12_text 27 = .ok (.iconst 0, 1) := by decide +kernel
theorem dX12_text_28 : decode cX12_text 28 = .ok (.iastore, 1) := by decide +kernel
theorem dX12_text_29 : decode cX12_text 29 = .ok (.aload_n 0, 1) := by decide +kernel
theorem dX12_text_30 : decode cX12_text 30 = .ok (.getfield 20, 3) := by decide +kernel
theorem dX12_text_33 : decode cX12_text 33 = .ok (.iconst 0, 1) := by decide +kernel
theorem dX12_text_34 : decode cX12_text 34 = .ok (.iconst (-1), 1) := by decide +kernel
theorem dX12_text_35 : decode cX12_text 35 = .ok (.iastore, 1) := by decide +kernel
theorem dX12_text_36 : decode cX12_text 36 = .ok (.iload_n 1, 1) := by decide +kernel
theorem dX12_text_37 : decode cX12_text 37 = .ok (.iconst 0, 1) := by decide +kernel
theorem dX12_text_38 : decode cX12_text 38 = .ok (.iconst 4, 1) := by decide +kernel
theorem dX12_text_39 : decode cX12_text 39 = .ok (.invokestatic 105, 3) := by decide +kernel
theorem dX12_text_42 : decode cX12_text 42 = .ok (.ifCond .eq 30, 3) := by decide +kernel
theorem dX12_text_45 : decode cX12_text 45 = .ok (.iload_n 2, 1) := by decide +kernel
theorem dX12_text_46 : decode cX12_text 46 = .ok (.iconst (-1), 1) := by decide +kernel
theorem dX12_text_47 : decode cX12_text 47 = .ok (.if_icmp .ne 16, 3) := by decide +kernel
theorem dX12_text_50 : decode cX12_text 50 = .ok (.aload_n 0, 1) := by decide +kernel
theorem dX12_text_51 : decode cX12_text 51 = .ok (.getfield 23, 3) := by decide +kernel
theorem dX12_text_54 : decode cX12_text 54 = .ok (.iload_n 1, 1) := by decide +kernel
theorem dX12_text_55 : decode cX12_text 55 = .ok (.iaload, 1) := by decide +kernel
theorem dX12_text_56 : decode cX12_text 56 = .ok (.iconst 2, 1) := by decide +kernel
theorem dX12_text_57 : decode cX12_text 57 = .ok (.if_icmp .ne 18, 3) := by decide +kernel
theorem dX12_text_60 : decode cX12_text 60 = .ok (.goto 12, 3) := by decide +kernel
theorem dX12_text_63 : decode cX12_text 63 = .ok (.aload_n 0, 1) := by decide +kernel
theorem dX12_text_64 : decode cX12_text 64 = .ok (.iload_n 1, 1) := by decide +kernel
theorem dX12_text_65 : decode cX12_text 65 = .ok (.iload_n 2, 1) := by decide +kernel
theorem dX12_text_66 : decode cX12_text 66 = .ok (.invokevirtual 301, 3) := by decide +kernel
theorem dX12_text_69 : decode cX12_text 69 = .ok (.ifCond .ne 6, 3) := by decide +kernel
theorem dX12_text_72 : decode cX12_text 72 = .ok (.bipush (-2), 2) := by decide +kernel
theorem dX12_text_74 : decode cX12_text 74 = .ok (.ireturn, 1) := by decide +kernel
theorem dX12_text_75 : decode cX12_text 75 = .ok (.aload_n 0, 1) := by decide +kernel
theorem dX12_text_76 : decode cX12_text 76 = .ok (.iload_n 1, 1) := by decide +kernel
theorem dX12_text_77 : decode cX12_text 77 = .ok (.invokevirtual 304, 3) := by decide +kernel
theorem dX12_text_80 : decode cX12_text 80 = .ok (.ifCond .ne 5, 3) := by decide +kernel
theorem dX12_text_83 : decode cX12_text 83 = .ok (.iconst (-1), 1) := by decide +kernel
theorem dX12_text_84 : decode cX12_text 84 = .ok (.ireturn, 1) := by decide +kernel
theorem dX12_text_85 : decode cX12_text 85 = .ok (.iload_n 2, 1) := by decide +kernel
theorem dX12_text_86 : decode cX12_text 86 = .ok (.iconst (-1), 1) := by decide +kernel
theorem dX12_text_87 : decode cX12_text 87 = .ok (.if_icmp .ne 12, 3) := by decide +kernel
theorem dX12_text_90 : decode cX12_text 90 = .ok (.aload_n 0, 1) := by decide +kernel
theorem dX12_text_91 : decode cX12_text 91 = .ok (.getfield 23, 3) := by decide +kernel
theorem dX12_text_94 : decode cX12_text 94 = .ok (.iload_n 1, 1) := by decide +kernel
theorem dX12_text_95 : decode cX12_text 95 = .ok (.iaload, 1) := by decide +kernel
theorem dX12_text_96 : decode cX12_text 96 = .ok (.goto 4, 3) := by decide +kernel
theorem dX12_text_99 : decode cX12_text 99 = .ok (.iload_n 2, 1) := by decide +kernel
theorem dX12_text_100 : decode cX12_text 100 = .ok (.istore_n 3, 1) := by decide +kernel
theorem dX12_text_101 : decode cX12_text 101 = .ok (.aload_n 0, 1) := by decide +kernel
theorem dX12_text_102 : decode cX12_text 102 = .ok (.getfield 23, 3) := by decide +kernel
theorem dX12_text_105 : decode cX12_text 105 = .ok (.iload_n 1, 1) := by decide +kernel
theorem dX12_text_106 : decode cX12_text 106 = .ok (.dup2, 1) := by decide +kernel
theorem dX12_text_107 : decode cX12_text 107 = .ok (.iaload, 1) := by decide +kernel
theorem dX12_text_108 : decode cX12_text 108 = .ok (.iload_n 2, 1) := by decide +kernel
theorem dX12_text_109 : decode cX12_text 109 = .ok (.iconst (-1), 1) := by decide +kernel
theorem dX12_text_110 : decode cX12_text 110 = .ok (.if_icmp .ne 7, 3) := by decide +kernel
theorem dX12_text_113 : decode cX12_text 113 = .ok (.iconst 1, 1) := by decide +kernel
theorem dX12_text_114 : decode cX12_text 114 = .ok (.goto 4, 3) := by decide +kernel
theorem dX12_text_117 : decode cX12_text 117 = .ok (.iconst 0, 1) := by decide +kernel
theorem dX12_text_118 : decode cX12_text 118 = .ok (.iadd, 1) := by decide +kernel
theorem dX12_text_119 : decode cX12_text 119 = .ok (.iastore, 1) := by decide +kernel
theorem dX12_text_120 : decode cX12_text 120 = .ok (.aload_n 0, 1) := by decide +kernel
theorem dX12_text_121 : decode cX12_text 121 = .ok (.iload_n 1, 1) := by decide +kernel
theorem dX12_text_122 : decode cX12_text 122 = .ok (.iload_n 3, 1) := by decide +kernel
theorem dX12_text_123 : decode cX12_text 123 = .ok (.invokevirtual 307, 3) := by decide +kernel
theorem dX12_text_126 : decode cX12_text 126 = .ok (.iload_n 3, 1) := by decide +kernel
theorem dX12_text_127 : decode cX12_text 127 = .ok (.ireturn, 1) := by decide +kernel
theorem dX12_fault_0 : decode cX12_fault 0 = .ok (.aload_n 0, 1) := by decide +kernel
theorem dX12_fault_1 : decode cX12_fault 1 = .ok (.iconst 0, 1) := by decide +kernel
theorem dX12_fault_2 : decode cX12_fault 2 = .ok (.putfield 97, 3) := by decide +kernel
theorem dX12_fault_5 : decode cX12_fault 5 = .ok (.iload_n 1, 1) := by decide +kernel
theorem dX12_fault_6 : decode cX12_fault 6 = .ok (.ifCond .ne 12, 3) := by decide +kernel
theorem dX12_fault_9 : decode cX12_fault 9 = .ok (.aload_n 0, 1) := by decide +kernel
theorem dX12_fault_10 : decode cX12_fault 10 = .ok (.getfield 17, 3) := by decide +kernel
theorem dX12_fault_13 : decode cX12_fault 13 = .ok (.iconst 0, 1) := by decide +kernel
theorem dX12_fault_14 : decode cX12_fault 14 = .ok (.iaload, 1) := by decide +kernel
theorem dX12_fault_15 : decode cX12_fault 15 = .ok (.goto 18, 3) := by decide +kernel
theorem dX12_fault_18 : decode cX12_fault 18 = .ok (.iload_n 1, 1) := by decide +kernel
theorem dX12_fault_19 : decode cX12_fault 19 = .ok (.iconst 1, 1) := by decide +kernel
theorem dX12_fault_20 : decode cX12_fault 20 = .ok (.if_icmp .ne 12, 3) := by decide +kernel
theorem dX12_fault_23 : decode cX12_fault 23 = .ok (.aload_n 0, 1) := by decide +kernel
theorem dX12_fault_24 : decode cX12_fault 24 = .ok (.getfield 20, 3) := by decide +kernel
theorem dX12_fault_27 : decode cX12_fault 27 = .ok (.iconst 0, 1) := by decide +kernel
theorem dX12_fault_28 : decode cX12_fault 28 = .ok (.iaload, 1) := by decide +kernel
theorem dX12_fault_29 : decode cX12_fault 29 = .ok (.goto 4, 3) := by decide +kernel
theorem dX12_fault_32 : decode cX12_fault 32 = .ok (.iconst (-1), 1) := by decide +kernel
theorem dX12_fault_33 : decode cX12_fault 33 = .ok (.ireturn, 1) := by decide +kernel
theorem dX12_of_0 : decode cX12_of 0 = .ok (.aload_n 0, 1) := by decide +kernel
theorem dX12_of_1 : decode cX12_of 1 = .ok (.getfield 26, 3) := by decide +kernel
theorem dX12_of_4 : decode cX12_of 4 = .ok (.sipush 132, 3) := by decide +kernel
theorem dX12_of_7 : decode cX12_of 7 = .ok (.aload_n 0, 1) := by decide +kernel
theorem dX12_of_8 : decode cX12_of 8 = .ok (.getfield 310, 3) := by decide +kernel
theorem dX12_of_11 : decode cX12_of 11 = .ok (.imul, 1) := by decide +kernel
theorem dX12_of_12 : decode cX12_of 12 = .ok (.iload_n 1, 1) := by decide +kernel
theorem dX12_of_13 : decode cX12_of 13 = .ok (.iadd, 1) := by decide +kernel
theorem dX12_of_14 : decode cX12_of 14 = .ok (.iaload, 1) := by decide +kernel
theorem dX12_of_15 : decode cX12_of 15 = .ok (.ireturn, 1) := by decide +kernel
theorem dX12_ofChild_0 : decode cX12_ofChild 0 = .ok (.aload_n 0, 1) := by decide +kernel
theorem dX12_ofChild_1 : decode cX12_ofChild 1 = .ok (.bipush 28, 2) := by decide +kernel
theorem dX12_ofChild_3 : decode cX12_ofChild 3 = .ok (.bipush 13, 2) := by decide +kernel
theorem dX12_ofChild_5 : decode cX12_ofChild 5 = .ok (.iload_n 1, 1) := by decide +kernel
theorem dX12_ofChild_6 : decode cX12_ofChild 6 = .ok (.imul, 1) := by decide +kernel
theorem dX12_ofChild_7 : decode cX12_ofChild 7 = .ok (.iadd, 1) := by decide +kernel
theorem dX12_ofChild_8 : decode cX12_ofChild 8 = .ok (.iload_n 2, 1) := by decide +kernel
theorem dX12_ofChild_9 : decode cX12_ofChild 9 = .ok (.iadd, 1) := by decide +kernel
theorem dX12_ofChild_10 : decode cX12_ofChild 10 = .ok (.invokevirtual 313, 3) := by decide +kernel
theorem dX12_ofChild_13 : decode cX12_ofChild 13 = .ok (.ireturn, 1) := by decide +kernel
theorem dX12_hand_0 : decode cX12_hand 0 = .ok (.aload_n 0, 1) := by decide +kernel
theorem dX12_hand_1 : decode cX12_hand 1 = .ok (.iconst 0, 1) := by decide +kernel
theorem dX12_hand_2 : decode cX12_hand 2 = .ok (.iload_n 1, 1) := by decide +kernel
theorem dX12_hand_3 : decode cX12_hand 3 = .ok (.invokevirtual 301, 3) := by decide +kernel
theorem dX12_hand_6 : decode cX12_hand 6 = .ok (.ifCond .ne 5, 3) := by decide +kernel
theorem dX12_hand_9 : decode cX12_hand 9 = .ok (.iconst 0, 1) := by decide +kernel
theorem dX12_hand_10 : decode cX12_hand 10 = .ok (.ireturn, 1) := by decide +kernel
theorem dX12_hand_11 : decode cX12_hand 11 = .ok (.aload_n 0, 1) := by decide +kernel
theorem dX12_hand_12 : decode cX12_hand 12 = .ok (.iload_n 1, 1) := by decide +kernel
theorem dX12_hand_13 : decode cX12_hand 13 = .ok (.putfield 310, 3) := by decide +kernel
theorem dX12_hand_16 : decode cX12_hand 16 = .ok (.aload_n 0, 1) := by decide +kernel
theorem dX12_hand_17 : decode cX12_hand 17 = .ok (.aload_n 0, 1) := by decide +kernel
theorem dX12_hand_18 : decode cX12_hand 18 = .ok (.iconst 0, 1) := by decide +kernel
theorem dX12_hand_19 : decode cX12_hand 19 = .ok (.invokevirtual 313, 3) := by decide +kernel
theorem dX12_hand_22 : decode cX12_hand 22 = .ok (.putfield 316, 3) := by decide +kernel
theorem dX12_hand_25 : decode cX12_hand 25 = .ok (.aload_n 0, 1) := by decide +kernel
theorem dX12_hand_26 : decode cX12_hand 26 = .ok (.aload_n 0, 1) := by decide +kernel
theorem dX12_hand_27 : decode cX12_hand 27 = .ok (.iconst 1, 1) := by decide +kernel
theorem dX12_hand_28 : decode cX12_hand 28 = .ok (.invokevirtual 313, 3) := by decide +kernel
theorem dX12_hand_31 : decode cX12_hand 31 = .ok (.putfield 319, 3) := by decide +kernel
theorem dX12_hand_34 : decode cX12_hand 34 = .ok (.aload_n 0, 1) := by decide +kernel
theorem dX12_hand_35 : decode cX12_hand 35 = .ok (.aload_n 0, 1) := by decide +kernel
theorem dX12_hand_36 : decode cX12_hand 36 = .ok (.iconst 2, 1) := by decide +kernel
theorem dX12_hand_37 : decode cX12_hand 37 = .ok (.invokevirtual 313, 3) := by decide +kernel
theorem dX12_hand_40 : decode cX12_hand 40 = .ok (.putfield 322, 3) := by decide +kernel
theorem dX12_hand_43 : decode cX12_hand 43 = .ok (.aload_n 0, 1) := by decide +kernel
theorem dX12_hand_44 : decode cX12_hand 44 = .ok (.aload_n 0, 1) := by decide +kernel
theorem dX12_hand_45 : decode cX12_hand 45 = .ok (.iconst 3, 1) := by decide +kernel
theorem dX12_hand_46 : decode cX12_hand 46 = .ok (.invokevirtual 313, 3) := by decide +kernel
theorem dX12_hand_49 : decode cX12_hand 49 = .ok (.putfield 325, 3) := by decide +kernel
theorem dX12_hand_52 : decode cX12_hand 52 = .ok (.iconst 1, 1) := by decide +kernel
theorem dX12_hand_53 : decode cX12_hand 53 = .ok (.ireturn, 1) := by decide +kernel
theorem dX12_isChild_0 : decode cX12_isChild 0 = .ok (.iload_n 1, 1) := by decide +kernel
theorem dX12_isChild_1 : decode cX12_isChild 1 = .ok (.iconst 0, 1) := by decide +kernel
theorem dX12_isChild_2 : decode cX12_isChild 2 = .ok (.aload_n 0, 1) := by decide +kernel
theorem dX12_isChild_3 : decode cX12_isChild 3 = .ok (.getfield 319, 3) := by decide +kernel
theorem dX12_isChild_6 : decode cX12_isChild 6 = .ok (.iconst 1, 1) := by decide +kernel
theorem dX12_isChild_7 : decode cX12_isChild 7 = .ok (.isub, 1) := by decide +kernel
theorem dX12_isChild_8 : decode cX12_isChild 8 = .ok (.invokestatic 105, 3) := by decide +kernel
theorem dX12_isChild_11 : decode cX12_isChild 11 = .ok (.ireturn, 1) := by decide +kernel
theorem dX12_party_0 : decode cX12_party 0 = .ok (.aload_n 0, 1) := by decide +kernel
theorem dX12_party_1 : decode cX12_party 1 = .ok (.iconst 0, 1) := by decide +kernel
theorem dX12_party_2 : decode cX12_party 2 = .ok (.putfield 97, 3) := by decide +kernel
theorem dX12_party_5 : decode cX12_party 5 = .ok (.aload_n 0, 1) := by decide +kernel
theorem dX12_party_6 : decode cX12_party 6 = .ok (.iload_n 1, 1) := by decide +kernel
theorem dX12_party_7 : decode cX12_party 7 = .ok (.invokevirtual 328, 3) := by decide +kernel
theorem dX12_party_10 : decode cX12_party 10 = .ok (.ifCond .ne 5, 3) := by decide +kernel
theorem dX12_party_13 : decode cX12_party 13 = .ok (.iconst (-1), 1) := by decide +kernel
theorem dX12_party_14 : decode cX12_party 14 = .ok (.ireturn, 1) := by decide +kernel
theorem dX12_party_15 : decode cX12_party 15 = .ok (.iload_n 2, 1) := by decide +kernel
theorem dX12_party_16 : decode cX12_party 16 = .ok (.bipush 10, 2) := by decide +kernel
theorem dX12_party_18 : decode cX12_party 18 = .ok (.bipush 17, 2) := by decide +kernel
theorem dX12_party_20 : decode cX12_party 20 = .ok (.invokestatic 105, 3) := by decide +kernel
theorem dX12_party_23 : decode cX12_party 23 = .ok (.ifCond .eq 15, 3) := by decide +kernel
theorem dX12_party_26 : decode cX12_party 26 = .ok (.aload_n 0, 1) := by decide +kernel
theorem dX12_party_27 : decode cX12_party 27 = .ok (.bipush 7, 2) := by decide +kernel
theorem dX12_party_29 : decode cX12_party 29 = .ok (.iload_n 2, 1) := by decide +kernel
theorem dX12_party_30 : decode cX12_party 30 = .ok (.iadd, 1) := by decide +kernel
theorem dX12_party_31 : decode cX12_party 31 = .ok (.bipush 10, 2) := by decide +kernel
theorem dX12_party_33 : decode cX12_party 33 = .ok (.isub, 1) := by decide +kernel
theorem dX12_party_34 : decode cX12_party 34 = .ok (.invokevirtual 313, 3) := by decide +kernel
theorem dX12_party_37 : decode cX12_party 37 = .ok (.ireturn, 1) := by decide +kernel
theorem dX12_party_38 : decode cX12_party 38 = .ok (.iload_n 2, 1) := by decide +kernel
theorem dX12_party_39 : decode cX12_party 39 = .ok (.bipush 30, 2) := by decide +kernel
theorem dX12_party_41 : decode cX12_party 41 = .ok (.bipush 29, 2) := by decide +kernel
theorem dX12_party_43 : decode cX12_party 43 = .ok (.aload_n 0, 1) := by decide +kernel
theorem dX12_party_44 : decode cX12_party 44 = .ok (.getfield 316, 3) := by decide +kernel
theorem dX12_party_47 : decode cX12_party 47 = .ok (.iadd, 1) := by decide +kernel
theorem dX12_party_48 : decode cX12_party 48 = .ok (.invokestatic 105, 3) := by decide +kernel
theorem dX12_party_51 : decode cX12_party 51 = .ok (.ifCond .ne 19, 3) := by decide +kernel
theorem dX12_party_54 : decode cX12_party 54 = .ok (.iload_n 2, 1) := by decide +kernel
theorem dX12_party_55 : decode cX12_party 55 = .ok (.bipush 40, 2) := by decide +kernel
theorem dX12_party_57 : decode cX12_party 57 = .ok (.bipush 39, 2) := by decide +kernel
theorem dX12_party_59 : decode cX12_party 59 = .ok (.aload_n 0, 1) := by decide +kernel
theorem dX12_party_60 : decode cX12_party 60 = .ok (.getfield 316, 3) := by decide +kernel
theorem dX12_party_63 : decode cX12_party 63 = .ok (.iadd, 1) := by decide +kernel
theorem dX12_party_64 : decode cX12_party 64 = .ok (.invokestatic 105, 3) := by decide +kernel
theorem dX12_party_67 : decode cX12_party 67 = .ok (.ifCond .eq 29, 3) := by decide +kernel
theorem dX12_party_70 : decode cX12_party 70 = .ok (.aload_n 0, 1) := by decide +kernel
theorem dX12_party_71 : decode cX12_party 71 = .ok (.bipush 18, 2) := by decide +kernel
theorem dX12_party_73 : decode cX12_party 73 = .ok (.iconst 2, 1) := by decide +kernel
theorem dX12_party_74 : decode cX12_party 74 = .ok (.iload_n 2, 1) := by decide +kernel
theorem dX12_party_75 : decode cX12_party 75 = .ok (.bipush 10, 2) := by decide +kernel
theorem dX12_party_77 : decode cX12_party 77 = .ok (.irem, 1) := by decide +kernel
theorem dX12_party_78 : decode cX12_party 78 = .ok (.imul, 1) := by decide +kernel
theorem dX12_party_79 : decode cX12_party 79 = .ok (.iadd, 1) := by decide +kernel
theorem dX12_party_80 : decode cX12_party 80 = .ok (.iload_n 2, 1) := by decide +kernel
theorem dX12_party_81 : decode cX12_party 81 = .ok (.bipush 40, 2) := by decide +kernel
theorem dX12_party_83 : decode cX12_party 83 = .ok (.if_icmp .ge 7, 3) := by decide +kernel
theorem dX12_party_86 : decode cX12_party 86 = .ok (.iconst 0, 1) := by decide +kernel
theorem dX12_party_87 : decode cX12_party 87 = .ok (.goto 4, 3) := by decide +kernel
theorem dX12_party_90 : decode cX12_party 90 = .ok (.iconst 1, 1) := by decide +kernel
theorem dX12_party_91 : decode cX12_party 91 = .ok (.iadd, 1) := by decide +kernel
theorem dX12_party_92 : decode cX12_party 92 = .ok (.invokevirtual 313, 3) := by decide +kernel
theorem dX12_party_95 : decode cX12_party 95 = .ok (.ireturn, 1) := by decide +kernel
theorem dX12_party_96 : decode cX12_party 96 = .ok (.iload_n 2, 1) := by decide +kernel
theorem dX12_party_97 : decode cX12_party 97 = .ok (.iconst 0, 1) := by decide +kernel
theorem dX12_party_98 : decode cX12_party 98 = .ok (.bipush 6, 2) := by decide +kernel
theorem dX12_party_100 : decode cX12_party 100 = .ok (.invokestatic 105, 3) := by decide +kernel
theorem dX12_party_103 : decode cX12_party 103 = .ok (.ifCond .eq 11, 3) := by decide +kernel
theorem dX12_party_106 : decode cX12_party 106 = .ok (.aload_n 0, 1) := by decide +kernel
theorem dX12_party_107 : decode cX12_party 107 = .ok (.iload_n 2, 1) := by decide +kernel
theorem dX12_party_108 : decode cX12_party 108 = .ok (.invokevirtual 313, 3) := by decide +kernel
theorem dX12_party_111 : decode cX12_party 111 = .ok (.goto 29, 3) := by decide +kernel
theorem dX12_party_114 : decode cX12_party 114 = .ok (.iload_n 2, 1) := by decide +kernel
theorem dX12_party_115 : decode cX12_party 115 = .ok (.bipush 20, 2) := by decide +kernel
theorem dX12_party_117 : decode cX12_party 117 = .ok (.bipush 22, 2) := by decide +kernel
theorem dX12_party_119 : decode cX12_party 119 = .ok (.invokestatic 105, 3) := by decide +kernel
theorem dX12_party_122 : decode cX12_party 122 = .ok (.ifCond .eq 17, 3) := by decide +kernel
theorem dX12_party_125 : decode cX12_party 125 = .ok (.aload_n 0, 1) := by decide +kernel
theorem dX12_party_126 : decode cX12_party 126 = .ok (.bipush 15, 2) := by decide +kernel
theorem dX12_party_128 : decode cX12_party 128 = .ok (.iload_n 2, 1) := by decide +kernel
theorem dX12_party_129 : decode cX12_party 129 = .ok (.iadd, 1) := by decide +kernel
theorem dX12_party_130 : decode cX12_party 130 = .ok (.bipush 20, 2) := by decide +kernel
theorem dX12_party_132 : decode cX12_party 132 = .ok (.isub, 1) := by decide +kernel
theorem dX12_party_133 : decode cX12_party 133 = .ok (.invokevirtual 313, 3) := by decide +kernel
theorem dX12_party_136 : decode cX12_party 136 = .ok (.goto 4, 3) := by decide +kernel
theorem dX12_party_139 : decode cX12_party 139 = .ok (.iconst (-1), 1) := by decide +kernel
theorem dX12_party_140 : decode cX12_party 140 = .ok (.ireturn, 1) := by decide +kernel
theorem dX12_child_0 : decode cX12_child 0 = .ok (.aload_n 0, 1) := by decide +kernel
theorem dX12_child_1 : decode cX12_child 1 = .ok (.iconst 0, 1) := by decide +kernel
theorem dX12_child_2 : decode cX12_child 2 = .ok (.putfield 97, 3) := by decide +kernel
theorem dX12_child_5 : decode cX12_child 5 = .ok (.aload_n 0, 1) := by decide +kernel
theorem dX12_child_6 : decode cX12_child 6 = .ok (.iload_n 1, 1) := by decide +kernel
theorem dX12_child_7 : decode cX12_child 7 = .ok (.invokevirtual 328, 3) := by decide +kernel
theorem dX12_child_10 : decode cX12_child 10 = .ok (.ifCond .eq 11, 3) := by decide +kernel
theorem dX12_child_13 : decode cX12_child 13 = .ok (.aload_n 0, 1) := by decide +kernel
theorem dX12_child_14 : decode cX12_child 14 = .ok (.iload_n 2, 1) := by decide +kernel
theorem dX12_child_15 : decode cX12_child 15 = .ok (.invokevirtual 331, 3) := by decide +kernel
theorem dX12_child_18 : decode cX12_child 18 = .ok (.ifCond .ne 5, 3) := by decide +kernel
theorem dX12_child_21 : decode cX12_child 21 = .ok (.iconst (-1), 1) := by decide +kernel
theorem dX12_child_22 : decode cX12_child 22 = .ok (.ireturn, 1) := by decide +kernel
theorem dX12_child_23 : decode cX12_child 23 = .ok (.iload_n 3, 1) := by decide +kernel
theorem dX12_child_24 : decode cX12_child 24 = .ok (.iconst 0, 1) := by decide +kernel
theorem dX12_child_25 : decode cX12_child 25 = .ok (.iconst 4, 1) := by decide +kernel
theorem dX12_child_26 : decode cX12_child 26 = .ok (.invokestatic 105, 3) := by decide +kernel
theorem dX12_child_29 : decode cX12_child 29 = .ok (.ifCond .eq 12, 3) := by decide +kernel
theorem dX12_child_32 : decode cX12_child 32 = .ok (.aload_n 0, 1) := by decide +kernel
theorem dX12_child_33 : decode cX12_child 33 = .ok (.iload_n 2, 1) := by decide +kernel
theorem dX12_child_34 : decode cX12_child 34 = .ok (.iload_n 3, 1) := by decide +kernel
theorem dX12_child_35 : decode cX12_child 35 = .ok (.invokevirtual 334, 3) := by decide +kernel
theorem dX12_child_38 : decode cX12_child 38 = .ok (.goto 34, 3) := by decide +kernel
theorem dX12_child_41 : decode cX12_child 41 = .ok (.iload_n 3, 1) := by decide +kernel
theorem dX12_child_42 : decode cX12_child 42 = .ok (.bipush 10, 2) := by decide +kernel
theorem dX12_child_44 : decode cX12_child 44 = .ok (.bipush 9, 2) := by decide +kernel
theorem dX12_child_46 : decode cX12_child 46 = .ok (.aload_n 0, 1) := by decide +kernel
theorem dX12_child_47 : decode cX12_child 47 = .ok (.getfield 319, 3) := by decide +kernel
theorem dX12_child_50 : decode cX12_child 50 = .ok (.iadd, 1) := by decide +kernel
theorem dX12_child_51 : decode cX12_child 51 = .ok (.invokestatic 105, 3) := by decide +kernel
theorem dX12_child_54 : decode cX12_child 54 = .ok (.ifCond .eq 17, 3) := by decide +kernel
theorem dX12_child_57 : decode cX12_child 57 = .ok (.aload_n 0, 1) := by decide +kernel
theorem dX12_child_58 : decode cX12_child 58 = .ok (.iload_n 2, 1) := by decide +kernel
theorem dX12_child_59 : decode cX12_child 59 = .ok (.iconst 5, 1) := by decide +kernel
theorem dX12_child_60 : decode cX12_child 60 = .ok (.iload_n 3, 1) := by decide +kernel
theorem dX12_child_61 : decode cX12_child 61 = .ok (.iadd, 1) := by decide +kernel
theorem dX12_child_62 : decode cX12_child 62 = .ok (.bipush 10, 2) := by decide +kernel
theorem dX12_child_64 : decode cX12_child 64 = .ok (.isub, 1) := by decide +kernel
theorem dX12_child_65 : decode cX12_child 65 = .ok (.invokevirtual 334, 3) := by decide +kernel
theorem dX12_child_68 : decode cX12_child 68 = .ok (.goto 4, 3) := by decide +kernel
theorem dX12_child_71 : decode cX12_child 71 = .ok (.iconst (-1), 1) := by decide +kernel
theorem dX12_child_72 : decode cX12_child 72 = .ok (.ireturn, 1) := by decide +kernel
theorem dX12_deeds_0 : decode cX12_deeds 0 = .ok (.aload_n 0, 1) := by decide +kernel
theorem dX12_deeds_1 : decode cX12_deeds 1 = .ok (.getfield 29, 3) := by decide +kernel
theorem dX12_deeds_4 : decode cX12_deeds 4 = .ok (.bipush 121, 2) := by decide +kernel
theorem dX12_deeds_6 : decode cX12_deeds 6 = .ok (.aload_n 0, 1) := by decide +kernel
theorem dX12_deeds_7 : decode cX12_deeds 7 = .ok (.getfield 337, 3) := by decide +kernel
theorem dX12_deeds_10 : decode cX12_deeds 10 = .ok (.imul, 1) := by decide +kernel
theorem dX12_deeds_11 : decode cX12_deeds 11 = .ok (.iaload, 1) := by decide +kernel
theorem dX12_deeds_12 : decode cX12_deeds 12 = .ok (.ireturn, 1) := by decide +kernel
theorem dX12_deedOf_0 : decode cX12_deedOf 0 = .ok (.aload_n 0, 1) := by decide +kernel
theorem dX12_deedOf_1 : decode cX12_deedOf 1 = .ok (.getfield 29, 3) := by decide +kernel
theorem dX12_deedOf_4 : decode cX12_deedOf 4 = .ok (.bipush 121, 2) := by decide +kernel
theorem dX12_deedOf_6 : decode cX12_deedOf 6 = .ok (.aload_n 0, 1) := by decide +kernel
theorem dX12_deedOf_7 : decode cX12_deedOf 7 = .ok (.getfield 337, 3) := by decide +kernel
theorem dX12_deedOf_10 : decode cX12_deedOf 10 = .ok (.imul, 1) := by decide +kernel
theorem dX12_deedOf_11 : decode cX12_deedOf 11 = .ok (.iconst 1, 1) := by decide +kernel
theorem dX12_deedOf_12 : decode cX12_deedOf 12 = .ok (.iadd, 1) := by decide +kernel
theorem dX12_deedOf_13 : decode cX12_deedOf 13 = .ok (.iconst 3, 1) := by decide +kernel
theorem dX12_deedOf_14 : decode cX12_deedOf 14 = .ok (.iload_n 1, 1) := by decide +kernel
theorem dX12_deedOf_15 : decode cX12_deedOf 15 = .ok (.imul, 1) := by decide +kernel
theorem dX12_deedOf_16 : decode cX12_deedOf 16 = .ok (.iadd, 1) := by decide +kernel
theorem dX12_deedOf_17 : decode cX12_deedOf 17 = .ok (.iload_n 2, 1) := by decide +kernel
theorem dX12_deedOf_18 : decode cX12_deedOf 18 = .ok (.iadd, 1) := by decide +kernel
theorem dX12_deedOf_19 : decode cX12_deedOf 19 = .ok (.iaload, 1) := by decide +kernel
theorem dX12_deedOf_20 : decode cX12_deedOf 20 = .ok (.ireturn, 1) := by decide +kernel
theorem dX12_hasBook_0 : decode cX12_hasBook 0 = .ok (.aload_n 0, 1) := by decide +kernel
theorem dX12_hasBook_1 : decode cX12_hasBook 1 = .ok (.iload_n 1, 1) := by decide +kernel
theorem dX12_hasBook_2 : decode cX12_hasBook 2 = .ok (.putfield 337, 3) := by decide +kernel
theorem dX12_hasBook_5 : decode cX12_hasBook 5 = .ok (.aload_n 0, 1) := by decide +kernel
theorem dX12_hasBook_6 : decode cX12_hasBook 6 = .ok (.iconst 1, 1) := by decide +kernel
theorem dX12_hasBook_7 : decode cX12_hasBook 7 = .ok (.iload_n 1, 1) := by decide +kernel
theorem dX12_hasBook_8 : decode cX12_hasBook 8 = .ok (.invokevirtual 301, 3) := by decide +kernel
theorem dX12_hasBook_11 : decode cX12_hasBook 11 = .ok (.ireturn, 1) := by decide +kernel
theorem dX12_deed_0 : decode cX12_deed 0 = .ok (.aload_n 0, 1) := by decide +kernel
theorem dX12_deed_1 : decode cX12_deed 1 = .ok (.iconst 0, 1) := by decide +kernel
theorem dX12_deed_2 : decode cX12_deed 2 = .ok (.putfield 97, 3) := by decide +kernel
theorem dX12_deed_5 : decode cX12_deed 5 = .ok (.aload_n 0, 1) := by decide +kernel
theorem dX12_deed_6 : decode cX12_deed 6 = .ok (.iload_n 1, 1) := by decide +kernel
theorem dX12_deed_7 : decode cX12_deed 7 = .ok (.invokevirtual 340, 3) := by decide +kernel
theorem dX12_deed_10 : decode cX12_deed 10 = .ok (.ifCond .ne 6, 3) := by decide +kernel
theorem dX12_deed_13 : decode cX12_deed 13 = .ok (.bipush (-2), 2) := by decide +kernel
theorem dX12_deed_15 : decode cX12_deed 15 = .ok (.ireturn, 1) := by decide +kernel
theorem dX12_deed_16 : decode cX12_deed 16 = .ok (.iload_n 2, 1) := by decide +kernel
theorem dX12_deed_17 : decode cX12_deed 17 = .ok (.iconst (-1), 1) := by decide +kernel
theorem dX12_deed_18 : decode cX12_deed 18 = .ok (.if_icmp .ne 17, 3) := by decide +kernel
theorem dX12_deed_21 : decode cX12_deed 21 = .ok (.iload_n 3, 1) := by decide +kernel
theorem dX12_deed_22 : decode cX12_deed 22 = .ok (.ifCond .ne 10, 3) := by decide +kernel
theorem dX12_deed_25 : decode cX12_deed 25 = .ok (.aload_n 0, 1) := by decide +kernel
theorem dX12_deed_26 : decode cX12_deed 26 = .ok (.invokevirtual 343, 3) := by decide +kernel
theorem dX12_deed_29 : decode cX12_deed 29 = .ok (.goto 5, 3) := by decide +kernel
theorem dX12_deed_32 : decode cX12_deed 32 = .ok (.bipush (-2), 2) := by decide +kernel
theorem dX12_deed_34 : decode cX12_deed 34 = .ok (.ireturn, 1) := by decide +kernel
theorem dX12_deed_35 : decode cX12_deed 35 = .ok (.iload_n 2, 1) := by decide +kernel
theorem dX12_deed_36 : decode cX12_deed 36 = .ok (.iconst 0, 1) := by decide +kernel
theorem dX12_deed_37 : decode cX12_deed 37 = .ok (.aload_n 0, 1) := by decide +kernel
theorem dX12_deed_38 : decode cX12_deed 38 = .ok (.invokevirtual 343, 3) := by decide +kernel
theorem dX12_deed_41 : decode cX12_deed 41 = .ok (.iconst 1, 1) := by decide +kernel
theorem dX12_deed_42 : decode cX12_deed 42 = .ok (.isub, 1) := by decide +kernel
theorem dX12_deed_43 : decode cX12_deed 43 = .ok (.invokestatic 105, 3) := by decide +kernel
theorem dX12_deed_46 : decode cX12_deed 46 = .ok (.ifCond .eq 21, 3) := by decide +kernel
theorem dX12_deed_49 : decode cX12_deed 49 = .ok (.iload_n 3, 1) := by decide +kernel
theorem dX12_deed_50 : decode cX12_deed 50 = .ok (.iconst 0, 1) := by decide +kernel
theorem dX12_deed_51 : decode cX12_deed 51 = .ok (.iconst 2, 1) := by decide +kernel
theorem dX12_deed_52 : decode cX12_deed 52 = .ok (.invokestatic 105, 3) := by decide +kernel
theorem dX12_deed_55 : decode cX12_deed 55 = .ok (.ifCond .eq 12, 3) := by decide +kernel
theorem dX12_deed_58 : decode cX12_deed 58 = .ok (.aload_n 0, 1) := by decide +kernel
theorem dX12_deed_59 : decode cX12_deed 59 = .ok (.iload_n 2, 1) := by decide +kernel
theorem dX12_deed_60 : decode cX12_deed 60 = .ok (.iload_n 3, 1) := by decide +kernel
theorem dX12_deed_61 : decode cX12_deed 61 = .ok (.invokevirtual 346, 3) := by decide +kernel
theorem dX12_deed_64 : decode cX12_deed 64 = .ok (.goto 5, 3) := by decide +kernel
theorem dX12_deed_67 : decode cX12_deed 67 = .ok (.bipush (-2), 2) := by decide +kernel
theorem dX12_deed_69 : decode cX12_deed 69 = .ok (.ireturn, 1) := by decide +kernel
theorem dX12_beginBook_0 : decode cX12_beginBook 0 = .ok (.aload_n 0, 1) := by decide +kernel
theorem dX12_beginBook_1 : decode cX12_beginBook 1 = .ok (.iconst (-1), 1) := by decide +kernel
theorem dX12_beginBook_2 : decode cX12_beginBook 2 = .ok (.putfield 349, 3) := by decide +kernel
theorem dX12_beginBook_5 : decode cX12_beginBook 5 = .ok (.aload_n 0, 1) := by decide +kernel
theorem dX12_beginBook_6 : decode cX12_beginBook 6 = .ok (.iconst 0, 1) := by decide +kernel
theorem dX12_beginBook_7 : decode cX12_beginBook 7 = .ok (.putfield 352, 3) := by decide +kernel
theorem dX12_beginBook_10 : decode cX12_beginBook 10 = .ok (.aload_n 0, 1) := by decide +kernel
theorem dX12_beginBook_11 : decode cX12_beginBook 11 = .ok (.iconst (-1), 1) := by decide +kernel
theorem dX12_beginBook_12 : decode cX12_beginBook 12 = .ok (.putfield 355, 3) := by decide +kernel
theorem dX12_beginBook_15 : decode cX12_beginBook 15 = .ok (.aload_n 0, 1) := by decide +kernel
theorem dX12_beginBook_16 : decode cX12_beginBook 16 = .ok (.iconst 0, 1) := by decide +kernel
theorem dX12_beginBook_17 : decode cX12_beginBook 17 = .ok (.putfield 358, 3) := by decide +kernel
theorem dX12_beginBook_20 : decode cX12_beginBook 20 = .ok (.aload_n 0, 1) := by decide +kernel
theorem dX12_beginBook_21 : decode cX12_beginBook 21 = .ok (.iconst (-1), 1) := by decide +kernel
theorem dX12_beginBook_22 : decode cX12_beginBook 22 = .ok (.putfield 361, 3) := by decide +kernel
theorem dX12_beginBook_25 : decode cX12_beginBook 25 = .ok (.aload_n 0, 1) := by decide +kernel
theorem dX12_beginBook_26 : decode cX12_beginBook 26 = .ok (.iconst (-1), 1) := by decide +kernel
theorem dX12_beginBook_27 : decode cX12_beginBook 27 = .ok (.putfield 364, 3) := by decide +kernel
theorem dX12_beginBook_30 : decode cX12_beginBook 30 = .ok (.aload_n 0, 1) := by decide +kernel
theorem dX12_beginBook_31 : decode cX12_beginBook 31 = .ok (.iconst 0, 1) := by decide +kernel
theorem dX12_beginBook_32 : decode cX12_beginBook 32 = .ok (.putfield 367, 3) := by decide +kernel
theorem dX12_beginBook_35 : decode cX12_beginBook 35 = .ok (.aload_n 0, 1) := by decide +kernel
theorem dX12_beginBook_36 : decode cX12_beginBook 36 = .ok (.iconst 0, 1) := by decide +kernel
theorem dX12_beginBook_37 : decode cX12_beginBook 37 = .ok (.putfield 370, 3) := by decide +kernel
theorem dX12_beginBook_40 : decode cX12_beginBook 40 = .ok (.aload_n 0, 1) := by decide +kernel
theorem dX12_beginBook_41 : decode cX12_beginBook 41 = .ok (.iconst (-1), 1) := by decide +kernel
theorem dX12_beginBook_42 : decode cX12_beginBook 42 = .ok (.putfield 373, 3) := by decide +kernel
theorem dX12_beginBook_45 : decode cX12_beginBook 45 = .ok (.aload_n 0, 1) := by decide +kernel
theorem dX12_beginBook_46 : decode cX12_beginBook 46 = .ok (.iconst (-1), 1) := by decide +kernel
theorem dX12_beginBook_47 : decode cX12_beginBook 47 = .ok (.putfield 376, 3) := by decide +kernel
theorem dX12_beginBook_50 : decode cX12_beginBook 50 = .ok (.iconst 0, 1) := by decide +kernel
theorem dX12_beginBook_51 : decode cX12_beginBook 51 = .ok (.istore_n 2, 1) := by decide +kernel
theorem dX12_beginBook_52 : decode cX12_beginBook 52 = .ok (.iload_n 2, 1) := by decide +kernel
theorem dX12_beginBook_53 : decode cX12_beginBook 53 = .ok (.aload_n 0, 1) := by decide +kernel
theorem dX12_beginBook_54 : decode cX12_beginBook 54 = .ok (.getfield 316, 3) := by decide +kernel
theorem dX12_beginBook_57 : decode cX12_beginBook 57 = .ok (.if_icmp .ge 27, 3) := by decide +kernel
theorem dX12_beginBook_60 : decode cX12_beginBook 60 = .ok (.aload_n 0, 1) := by decide +kernel
theorem dX12_beginBook_61 : decode cX12_beginBook 61 = .ok (.getfield 47, 3) := by decide +kernel
theorem dX12_beginBook_64 : decode cX12_beginBook 64 = .ok (.iload_n 2, 1) := by decide +kernel
theorem dX12_beginBook_65 : decode cX12_beginBook 65 = .ok (.aload_n 0, 1) := by decide +kernel
theorem dX12_beginBook_66 : decode cX12_beginBook 66 = .ok (.bipush 18, 2) := by decide +kernel
theorem dX12_beginBook_68 : decode cX12_beginBook 68 = .ok (.iconst 2, 1) := by decide +kernel
theorem dX12_beginBook_69 : decode cX12_beginBook 69 = .ok (.iload_n 2, 1) := by decide +kernel
theorem dX12_beginBook_70 : decode cX12_beginBook 70 = .ok (.imul, 1) := by decide +kernel
theorem dX12_beginBook_71 : decode cX12_beginBook 71 = .ok (.iadd, 1) := by decide +kernel
theorem dX12_beginBook_72 : decode cX12_beginBook 72 = .ok (.iconst 1, 1) := by decide +kernel
theorem dX12_beginBook_73 : decode cX12_beginBook 73 = .ok (.iadd, 1) := by decide +kernel
theorem dX12_beginBook_74 : decode cX12_beginBook 74 = .ok (.invokevirtual 313, 3) := by decide +kernel
theorem dX12_beginBook_77 : decode cX12_beginBook 77 = .ok (.iastore, 1) := by decide +kernel
theorem dX12_beginBook_78 : decode cX12_beginBook 78 = .ok (.iinc 2 1, 3) := by decide +kernel
theorem dX12_beginBook_81 : decode cX12_beginBook 81 = .ok (.goto (-29), 3) := by decide +kernel
theorem dX12_beginBook_84 : decode cX12_beginBook 84 = .ok (.aload_n 0, 1) := by decide +kernel
theorem dX12_beginBook_85 : decode cX12_beginBook 85 = .ok (.getfield 47, 3) := by decide +kernel
theorem dX12_beginBook_88 : decode cX12_beginBook 88 = .ok (.iconst 0, 1) := by decide +kernel
theorem dX12_beginBook_89 : decode cX12_beginBook 89 = .ok (.iload_n 1, 1) := by decide +kernel
theorem dX12_beginBook_90 : decode cX12_beginBook 90 = .ok (.iastore, 1) := by decide +kernel
theorem dX12_beginBook_91 : decode cX12_beginBook 91 = .ok (.iconst 0, 1) := by decide +kernel
theorem dX12_beginBook_92 : decode cX12_beginBook 92 = .ok (.istore_n 2, 1) := by decide +kernel
theorem dX12_beginBook_93 : decode cX12_beginBook 93 = .ok (.iload_n 2, 1) := by decide +kernel
theorem dX12_beginBook_94 : decode cX12_beginBook 94 = .ok (.bipush 32, 2) := by decide +kernel
theorem dX12_beginBook_96 : decode cX12_beginBook 96 = .ok (.if_icmp .ge 16, 3) := by decide +kernel
theorem dX12_beginBook_99 : decode cX12_beginBook 99 = .ok (.aload_n 0, 1) := by decide +kernel
theorem dX12_beginBook_100 : decode cX12_beginBook 100 = .ok (.getfield 50, 3) := by decide +kernel
theorem dX12_beginBook_103 : decode cX12_beginBook 103 = .ok (.iload_n 2, 1) := by decide +kernel
theorem dX12_beginBook_104 : decode cX12_beginBook 104 = .ok (.iconst 0, 1) := by decide +kernel
theorem dX12_beginBook_105 : decode cX12_beginBook 105 = .ok (.iastore, 1) := by decide +kernel
theorem dX12_beginBook_106 : decode cX12_beginBook 106 = .ok (.iinc 2 1, 3) := by decide +kernel
theorem dX12_beginBook_109 : decode cX12_beginBook 109 = .ok (.goto (-16), 3) := by decide +kernel
theorem dX12_beginBook_112 : decode cX12_beginBook 112 = .ok (.return_, 1) := by decide +kernel
theorem dX12_apart_0 : decode cX12_apart 0 = .ok (.iload_n 0, 1) := by decide +kernel
theorem dX12_apart_1 : decode cX12_apart 1 = .ok (.iload_n 1, 1) := by decide +kernel
theorem dX12_apart_2 : decode cX12_apart 2 = .ok (.isub, 1) := by decide +kernel
theorem dX12_apart_3 : decode cX12_apart 3 = .ok (.invokestatic 379, 3) := by decide +kernel
theorem dX12_apart_6 : decode cX12_apart 6 = .ok (.istore_n 2, 1) := by decide +kernel
theorem dX12_apart_7 : decode cX12_apart 7 = .ok (.iload_n 2, 1) := by decide +kernel
theorem dX12_apart_8 : decode cX12_apart 8 = .ok (.bipush 8, 2) := by decide +kernel
theorem dX12_apart_10 : decode cX12_apart 10 = .ok (.iload_n 2, 1) := by decide +kernel
theorem dX12_apart_11 : decode cX12_apart 11 = .ok (.isub, 1) := by decide +kernel
theorem dX12_apart_12 : decode cX12_apart 12 = .ok (.invokestatic 381, 3) := by decide +kernel
theorem dX12_apart_15 : decode cX12_apart 15 = .ok (.ireturn, 1) := by decide +kernel
theorem dX12_struck_0 : decode cX12_struck 0 = .ok (.iconst 0, 1) := by decide +kernel
theorem dX12_struck_1 : decode cX12_struck 1 = .ok (.istore 4, 2) := by decide +kernel
theorem dX12_struck_3 : decode cX12_struck 3 = .ok (.iload 4, 2) := by decide +kernel
theorem dX12_struck_5 : decode cX12_struck 5 = .ok (.aload_n 0, 1) := by decide +kernel
theorem dX12_struck_6 : decode cX12_struck 6 = .ok (.getfield 316, 3) := by decide +kernel
theorem dX12_struck_9 : decode cX12_struck 9 = .ok (.if_icmp .ge 60, 3) := by decide +kernel
theorem dX12_struck_12 : decode cX12_struck 12 = .ok (.aload_n 0, 1) := by decide +kernel
theorem dX12_struck_13 : decode cX12_struck 13 = .ok (.bipush 18, 2) := by decide +kernel
theorem dX12_struck_15 : decode cX12_struck 15 = .ok (.iconst 2, 1) := by decide +kernel
theorem dX12_struck_16 : decode cX12_struck 16 = .ok (.iload 4, 2) := by decide +kernel
theorem dX12_struck_18 : decode cX12_struck 18 = .ok (.imul, 1) := by decide +kernel
theorem dX12_struck_19 : decode cX12_struck 19 = .ok (.iadd, 1) := by decide +kernel
theorem dX12_struck_20 : decode cX12_struck 20 = .ok (.invokevirtual 313, 3) := by decide +kernel
theorem dX12_struck_23 : decode cX12_struck 23 = .ok (.aload_n 0, 1) := by decide +kernel
theorem dX12_struck_24 : decode cX12_struck 24 = .ok (.getfield 358, 3) := by decide +kernel
theorem dX12_struck_27 : decode cX12_struck 27 = .ok (.iadd, 1) := by decide +kernel
theorem dX12_struck_28 : decode cX12_struck 28 = .ok (.iload_n 2, 1) := by decide +kernel
theorem dX12_struck_29 : decode cX12_struck 29 = .ok (.isub, 1) := by decide +kernel
theorem dX12_struck_30 : decode cX12_struck 30 = .ok (.invokestatic 379, 3) := by decide +kernel
theorem dX12_struck_33 : decode cX12_struck 33 = .ok (.iload_n 1, 1) := by decide +kernel
theorem dX12_struck_34 : decode cX12_struck 34 = .ok (.aload_n 0, 1) := by decide +kernel
theorem dX12_struck_35 : decode cX12_struck 35 = .ok (.getfield 355, 3) := by decide +kernel
theorem dX12_struck_38 : decode cX12_struck 38 = .ok (.invokestatic 384, 3) := by decide +kernel
theorem dX12_struck_41 : decode cX12_struck 41 = .ok (.iadd, 1) := by decide +kernel
theorem dX12_struck_42 : decode cX12_struck 42 = .ok (.istore 5, 2) := by decide +kernel
theorem dX12_struck_44 : decode cX12_struck 44 = .ok (.aload_n 0, 1) := by decide +kernel
theorem dX12_struck_45 : decode cX12_struck 45 = .ok (.getfield 47, 3) := by decide +kernel
theorem dX12_struck_48 : decode cX12_struck 48 = .ok (.iload 4, 2) := by decide +kernel
theorem dX12_struck_50 : decode cX12_struck 50 = .ok (.iaload, 1) := by decide +kernel
theorem dX12_struck_51 : decode cX12_struck 51 = .ok (.ifCond .le 12, 3) := by decide +kernel
theorem dX12_struck_54 : decode cX12_struck 54 = .ok (.iload 5, 2) := by decide +kernel
theorem dX12_struck_56 : decode cX12_struck 56 = .ok (.iload_n 3, 1) := by decide +kernel
theorem dX12_struck_57 : decode cX12_struck 57 = .ok (.if_icmp .ne 6, 3) := by decide +kernel
theorem dX12_struck_60 : decode cX12_struck 60 = .ok (.iload 4, 2) := by decide +kernel
theorem dX12_struck_62 : decode cX12_struck 62 = .ok (.ireturn, 1) := by decide +kernel
theorem dX12_struck_63 : decode cX12_struck 63 = .ok (.iinc 4 1, 3) := by decide +kernel
theorem dX12_struck_66 : decode cX12_struck 66 = .ok (.goto (-63), 3) := by decide +kernel
theorem dX12_struck_69 : decode cX12_struck 69 = .ok (.iconst (-1), 1) := by decide +kernel
theorem dX12_struck_70 : decode cX12_struck 70 = .ok (.ireturn, 1) := by decide +kernel
theorem dX12_strikes_0 : decode cX12_strikes 0 = .ok (.aload_n 0, 1) := by decide +kernel
theorem dX12_strikes_1 : decode cX12_strikes 1 = .ok (.getfield 349, 3) := by decide +kernel
theorem dX12_strikes_4 : decode cX12_strikes 4 = .ok (.iconst (-1), 1) := by decide +kernel
theorem dX12_strikes_5 : decode cX12_strikes 5 = .ok (.if_icmp .eq 22, 3) := by decide +kernel
theorem dX12_strikes_8 : decode cX12_strikes 8 = .ok (.aload_n 0, 1) := by decide +kernel
theorem dX12_strikes_9 : decode cX12_strikes 9 = .ok (.getfield 355, 3) := by decide +kernel
theorem dX12_strikes_12 : decode cX12_strikes 12 = .ok (.iconst (-1), 1) := by decide +kernel
theorem dX12_strikes_13 : decode cX12_strikes 13 = .ok (.if_icmp .eq 14, 3) := by decide +kernel
theorem dX12_strikes_16 : decode cX12_strikes 16 = .ok (.aload_n 0, 1) := by decide +kernel
theorem dX12_strikes_17 : decode cX12_strikes 17 = .ok (.getfield 352, 3) := by decide +kernel
theorem dX12_strikes_20 : decode cX12_strikes 20 = .ok (.aload_n 0, 1) := by decide +kernel
theorem dX12_strikes_21 : decode cX12_strikes 21 = .ok (.getfield 322, 3) := by decide +kernel
theorem dX12_strikes_24 : decode cX12_strikes 24 = .ok (.if_icmp .lt 5, 3) := by decide +kernel
theorem dX12_strikes_27 : decode cX12_strikes 27 = .ok (.iconst 0, 1) := by decide +kernel
theorem dX12_strikes_28 : decode cX12_strikes 28 = .ok (.ireturn, 1) := by decide +kernel
theorem dX12_strikes_29 : decode cX12_strikes 29 = .ok (.aload_n 0, 1) := by decide +kernel
theorem dX12_strikes_30 : decode cX12_strikes 30 = .ok (.dup, 1) := by decide +kernel
theorem dX12_strikes_31 : decode cX12_strikes 31 = .ok (.getfield 352, 3) := by decide +kernel
theorem dX12_strikes_34 : decode cX12_strikes 34 = .ok (.iconst 1, 1) := by decide +kernel
theorem dX12_strikes_35 : decode cX12_strikes 35 = .ok (.iadd, 1) := by decide +kernel
theorem dX12_strikes_36 : decode cX12_strikes 36 = .ok (.putfield 352, 3) := by decide +kernel
theorem dX12_strikes_39 : decode cX12_strikes 39 = .ok (.aload_n 0, 1) := by decide +kernel
theorem dX12_strikes_40 : decode cX12_strikes 40 = .ok (.aload_n 0, 1) := by decide +kernel
theorem dX12_strikes_41 : decode cX12_strikes 41 = .ok (.getfield 349, 3) := by decide +kernel
theorem dX12_strikes_44 : decode cX12_strikes 44 = .ok (.iconst 1, 1) := by decide +kernel
theorem dX12_strikes_45 : decode cX12_strikes 45 = .ok (.invokevirtual 334, 3) := by decide +kernel
theorem dX12_strikes_48 : decode cX12_strikes 48 = .ok (.istore 4, 2) := by decide +kernel
theorem dX12_strikes_50 : decode cX12_strikes 50 = .ok (.aload_n 0, 1) := by decide +kernel
theorem dX12_strikes_51 : decode cX12_strikes 51 = .ok (.aload_n 0, 1) := by decide +kernel
theorem dX12_strikes_52 : decode cX12_strikes 52 = .ok (.iload_n 1, 1) := by decide +kernel
theorem dX12_strikes_53 : decode cX12_strikes 53 = .ok (.iload_n 2, 1) := by decide +kernel
theorem dX12_strikes_54 : decode cX12_strikes 54 = .ok (.iconst 0, 1) := by decide +kernel
theorem dX12_strikes_55 : decode cX12_strikes 55 = .ok (.invokevirtual 387, 3) := by decide +kernel
theorem dX12_strikes_58 : decode cX12_strikes 58 = .ok (.putfield 376, 3) := by decide +kernel
theorem dX12_strikes_61 : decode cX12_strikes 61 = .ok (.aload_n 0, 1) := by decide +kernel
theorem dX12_strikes_62 : decode cX12_strikes 62 = .ok (.aload_n 0, 1) := by decide +kernel
theorem dX12_strikes_63 : decode cX12_strikes 63 = .ok (.getfield 376, 3) := by decide +kernel
theorem dX12_strikes_66 : decode cX12_strikes 66 = .ok (.iconst (-1), 1) := by decide +kernel
theorem dX12_strikes_67 : decode cX12_strikes 67 = .ok (.if_icmp .ne 7, 3) := by decide +kernel
theorem dX12_strikes_70 : decode cX12_strikes 70 = .ok (.iconst 0, 1) := by decide +kernel
theorem dX12_strikes_71 : decode cX12_strikes 71 = .ok (.goto 4, 3) := by decide +kernel
theorem dX12_strikes_74 : decode cX12_strikes 74 = .ok (.iconst 2, 1) := by decide +kernel
theorem dX12_strikes_75 : decode cX12_strikes 75 = .ok (.putfield 373, 3) := by decide +kernel
theorem dX12_strikes_78 : decode cX12_strikes 78 = .ok (.aload_n 0, 1) := by decide +kernel
theorem dX12_strikes_79 : decode cX12_strikes 79 = .ok (.getfield 376, 3) := by decide +kernel
theorem dX12_strikes_82 : decode cX12_strikes 82 = .ok (.iconst (-1), 1) := by decide +kernel
theorem dX12_strikes_83 : decode cX12_strikes 83 = .ok (.if_icmp .ne 31, 3) := by decide +kernel
theorem dX12_strikes_86 : decode cX12_strikes 86 = .ok (.aload_n 0, 1) := by decide +kernel
theorem dX12_strikes_87 : decode cX12_strikes 87 = .ok (.aload_n 0, 1) := by decide +kernel
theorem dX12_strikes_88 : decode cX12_strikes 88 = .ok (.iload_n 1, 1) := by decide +kernel
theorem dX12_strikes_89 : decode cX12_strikes 89 = .ok (.iload_n 2, 1) := by decide +kernel
theorem dX12_strikes_90 : decode cX12_strikes 90 = .ok (.iconst 1, 1) := by decide +kernel
theorem dX12_strikes_91 : decode cX12_strikes 91 = .ok (.invokevirtual 387, 3) := by decide +kernel
theorem dX12_strikes_94 : decode cX12_strikes 94 = .ok (.putfield 376, 3) := by decide +kernel
theorem dX12_strikes_97 : decode cX12_strikes 97 = .ok (.aload_n 0, 1) := by decide +kernel
theorem dX12_strikes_98 : decode cX12_strikes 98 = .ok (.aload_n 0, 1) := by decide +kernel
theorem dX12_strikes_99 : decode cX12_strikes 99 = .ok (.getfield 376, 3) := by decide +kernel
theorem dX12_strikes_102 : decode cX12_strikes 102 = .ok (.iconst (-1), 1) := by decide +kernel
theorem dX12_strikes_103 : decode cX12_strikes 103 = .ok (.if_icmp .ne 7, 3) := by decide +kernel
theorem dX12_strikes_106 : decode cX12_strikes 106 = .ok (.iconst 0, 1) := by decide +kernel
theorem dX12_strikes_107 : decode cX12_strikes 107 = .ok (.goto 4, 3) := by decide +kernel
theorem dX12_strikes_110 : decode cX12_strikes 110 = .ok (.iconst 1, 1) := by decide +kernel
theorem dX12_strikes_111 : decode cX12_strikes 111 = .ok (.putfield 373, 3) := by decide +kernel
theorem dX12_strikes_114 : decode cX12_strikes 114 = .ok (.aload_n 0, 1) := by decide +kernel
theorem dX12_strikes_115 : decode cX12_strikes 115 = .ok (.getfield 53, 3) := by decide +kernel
theorem dX12_strikes_118 : decode cX12_strikes 118 = .ok (.iload_n 3, 1) := by decide +kernel
theorem dX12_strikes_119 : decode cX12_strikes 119 = .ok (.aload_n 0, 1) := by decide +kernel
theorem dX12_strikes_120 : decode cX12_strikes 120 = .ok (.getfield 373, 3) := by decide +kernel
theorem dX12_strikes_123 : decode cX12_strikes 123 = .ok (.iastore, 1) := by decide +kernel
theorem dX12_strikes_124 : decode cX12_strikes 124 = .ok (.aload_n 0, 1) := by decide +kernel
theorem dX12_strikes_125 : decode cX12_strikes 125 = .ok (.getfield 56, 3) := by decide +kernel
theorem dX12_strikes_128 : decode cX12_strikes 128 = .ok (.iload_n 3, 1) := by decide +kernel
theorem dX12_strikes_129 : decode cX12_strikes 129 = .ok (.aload_n 0, 1) := by decide +kernel
theorem dX12_strikes_130 : decode cX12_strikes 130 = .ok (.getfield 376, 3) := by decide +kernel
theorem dX12_strikes_133 : decode cX12_strikes 133 = .ok (.iastore, 1) := by decide +kernel
theorem dX12_strikes_134 : decode cX12_strikes 134 = .ok (.aload_n 0, 1) := by decide +kernel
theorem dX12_strikes_135 : decode cX12_strikes 135 = .ok (.getfield 50, 3) := by decide +kernel
theorem dX12_strikes_138 : decode cX12_strikes 138 = .ok (.iconst 4, 1) := by decide +kernel
theorem dX12_strikes_139 : decode cX12_strikes 139 = .ok (.aload_n 0, 1) := by decide +kernel
theorem dX12_strikes_140 : decode cX12_strikes 140 = .ok (.getfield 349, 3) := by decide +kernel
theorem dX12_strikes_143 : decode cX12_strikes 143 = .ok (.imul, 1) := by decide +kernel
theorem dX12_strikes_144 : decode cX12_strikes 144 = .ok (.aload_n 0, 1) := by decide +kernel
theorem dX12_strikes_145 : decode cX12_strikes 145 = .ok (.getfield 373, 3) := by decide +kernel
theorem dX12_strikes_148 : decode cX12_strikes 148 = .ok (.iadd, 1) := by decide +kernel
theorem dX12_strikes_149 : decode cX12_strikes 149 = .ok (.dup2, 1) := by decide +kernel
theorem dX12_strikes_150 : decode cX12_strikes 150 = .ok (.iaload, 1) := by decide +kernel
theorem dX12_strikes_151 : decode cX12_strikes 151 = .ok (.iconst 1, 1) := by decide +kernel
theorem dX12_strikes_152 : decode cX12_strikes 152 = .ok (.iadd, 1) := by decide +kernel
theorem dX12_strikes_153 : decode cX12_strikes 153 = .ok (.iastore, 1) := by decide +kernel
theorem dX12_strikes_154 : decode cX12_strikes 154 = .ok (.aload_n 0, 1) := by decide +kernel
theorem dX12_strikes_155 : decode cX12_strikes 155 = .ok (.getfield 373, 3) := by decide +kernel
theorem dX12_strikes_158 : decode cX12_strikes 158 = .ok (.ifCond .eq 66, 3) := by decide +kernel
theorem dX12_strikes_161 : decode cX12_strikes 161 = .ok (.aload_n 0, 1) := by decide +kernel
theorem dX12_strikes_162 : decode cX12_strikes 162 = .ok (.getfield 47, 3) := by decide +kernel
theorem dX12_strikes_165 : decode cX12_strikes 165 = .ok (.aload_n 0, 1) := by decide +kernel
theorem dX12_strikes_166 : decode cX12_strikes 166 = .ok (.getfield 376, 3) := by decide +kernel
theorem dX12_strikes_169 : decode cX12_strikes 169 = .ok (.iaload, 1) := by decide +kernel
theorem dX12_strikes_170 : decode cX12_strikes 170 = .ok (.aload_n 0, 1) := by decide +kernel
theorem dX12_strikes_171 : decode cX12_strikes 171 = .ok (.getfield 373, 3) := by decide +kernel
theorem dX12_strikes_174 : decode cX12_strikes 174 = .ok (.iconst 2, 1) := by decide +kernel
theorem dX12_strikes_175 : decode cX12_strikes 175 = .ok (.if_icmp .ne 8, 3) := by decide +kernel
theorem dX12_strikes_178 : decode cX12_strikes 178 = .ok (.iload 4, 2) := by decide +kernel
theorem dX12_strikes_180 : decode cX12_strikes 180 = .ok (.goto 7, 3) := by decide +kernel
theorem dX12_strikes_183 : decode cX12_strikes 183 = .ok (.iload 4, 2) := by decide +kernel
theorem dX12_strikes_185 : decode cX12_strikes 185 = .ok (.iconst 2, 1) := by decide +kernel
theorem dX12_strikes_186 : decode cX12_strikes 186 = .ok (.idiv, 1) := by decide +kernel
theorem dX12_strikes_187 : decode cX12_strikes 187 = .ok (.invokestatic 381, 3) := by decide +kernel
theorem dX12_strikes_190 : decode cX12_strikes 190 = .ok (.istore 5, 2) := by decide +kernel
theorem dX12_strikes_192 : decode cX12_strikes 192 = .ok (.aload_n 0, 1) := by decide +kernel
theorem dX12_strikes_193 : decode cX12_strikes 193 = .ok (.getfield 47, 3) := by decide +kernel
theorem dX12_strikes_196 : decode cX12_strikes 196 = .ok (.aload_n 0, 1) := by decide +kernel
theorem dX12_strikes_197 : decode cX12_strikes 197 = .ok (.getfield 376, 3) := by decide +kernel
theorem dX12_strikes_200 : decode cX12_strikes 200 = .ok (.dup2, 1) := by decide +kernel
theorem dX12_strikes_201 : decode cX12_strikes 201 = .ok (.iaload, 1) := by decide +kernel
theorem dX12_strikes_202 : decode cX12_strikes 202 = .ok (.iload 5, 2) := by decide +kernel
theorem dX12_strikes_204 : decode cX12_strikes 204 = .ok (.isub, 1) := by decide +kernel
theorem dX12_strikes_205 : decode cX12_strikes 205 = .ok (.iastore, 1) := by decide +kernel
theorem dX12_strikes_206 : decode cX12_strikes 206 = .ok (.aload_n 0, 1) := by decide +kernel
theorem dX12_strikes_207 : decode cX12_strikes 207 = .ok (.getfield 50, 3) := by decide +kernel
theorem dX12_strikes_210 : decode cX12_strikes 210 = .ok (.iconst 4, 1) := by decide +kernel
theorem dX12_strikes_211 : decode cX12_strikes 211 = .ok (.aload_n 0, 1) := by decide +kernel
theorem dX12_strikes_212 : decode cX12_strikes 212 = .ok (.getfield 349, 3) := by decide +kernel
theorem dX12_strikes_215 : decode cX12_strikes 215 = .ok (.imul, 1) := by decide +kernel
theorem dX12_strikes_216 : decode cX12_strikes 216 = .ok (.iconst 3, 1) := by decide +kernel
theorem dX12_strikes_217 : decode cX12_strikes 217 = .ok (.iadd, 1) := by decide +kernel
theorem dX12_strikes_218 : decode cX12_strikes 218 = .ok (.dup2, 1) := by decide +kernel
theorem dX12_strikes_219 : decode cX12_strikes 219 = .ok (.iaload, 1) := by decide +kernel
theorem dX12_strikes_220 : decode cX12_strikes 220 = .ok (.iload 5, 2) := by decide +kernel
theorem dX12_strikes_222 : decode cX12_strikes 222 = .ok (.iadd, 1) := by decide +kernel
theorem dX12_strikes_223 : decode cX12_strikes 223 = .ok (.iastore, 1) := by decide +kernel
theorem dX12_strikes_224 : decode cX12_strikes 224 = .ok (.aload_n 0, 1) := by decide +kernel
theorem dX12_strikes_225 : decode cX12_strikes 225 = .ok (.getfield 47, 3) := by decide +kernel
theorem dX12_strikes_228 : decode cX12_strikes 228 = .ok (.iconst 0, 1) := by decide +kernel
theorem dX12_strikes_229 : decode cX12_strikes 229 = .ok (.iaload, 1) := by decide +kernel
theorem dX12_strikes_230 : decode cX12_strikes 230 = .ok (.ifCond .ne 16, 3) := by decide +kernel
theorem dX12_strikes_233 : decode cX12_strikes 233 = .ok (.aload_n 0, 1) := by decide +kernel
theorem dX12_strikes_234 : decode cX12_strikes 234 = .ok (.aload_n 0, 1) := by decide +kernel
theorem dX12_strikes_235 : decode cX12_strikes 235 = .ok (.getfield 349, 3) := by decide +kernel
theorem dX12_strikes_238 : decode cX12_strikes 238 = .ok (.putfield 361, 3) := by decide +kernel
theorem dX12_strikes_241 : decode cX12_strikes 241 = .ok (.aload_n 0, 1) := by decide +kernel
theorem dX12_strikes_242 : decode cX12_strikes 242 = .ok (.iload_n 3, 1) := by decide +kernel
theorem dX12_strikes_243 : decode cX12_strikes 243 = .ok (.putfield 364, 3) := by decide +kernel
theorem dX12_strikes_246 : decode cX12_strikes 246 = .ok (.iconst 1, 1) := by decide +kernel
theorem dX12_strikes_247 : decode cX12_strikes 247 = .ok (.ireturn, 1) := by decide +kernel
theorem dX12_goes_0 : decode cX12_goes 0 = .ok (.aload_n 0, 1) := by decide +kernel
theorem dX12_goes_1 : decode cX12_goes 1 = .ok (.iload_n 1, 1) := by decide +kernel
theorem dX12_goes_2 : decode cX12_goes 2 = .ok (.invokevirtual 331, 3) := by decide +kernel
theorem dX12_goes_5 : decode cX12_goes 5 = .ok (.ifCond .eq 33, 3) := by decide +kernel
theorem dX12_goes_8 : decode cX12_goes 8 = .ok (.aload_n 0, 1) := by decide +kernel
theorem dX12_goes_9 : decode cX12_goes 9 = .ok (.getfield 370, 3) := by decide +kernel
theorem dX12_goes_12 : decode cX12_goes 12 = .ok (.iload_n 1, 1) := by decide +kernel
theorem dX12_goes_13 : decode cX12_goes 13 = .ok (.invokestatic 391, 3) := by decide +kernel
theorem dX12_goes_16 : decode cX12_goes 16 = .ok (.ifCond .ne 22, 3) := by decide +kernel
theorem dX12_goes_19 : decode cX12_goes 19 = .ok (.aload_n 0, 1) := by decide +kernel
theorem dX12_goes_20 : decode cX12_goes 20 = .ok (.getfield 349, 3) := by decide +kernel
theorem dX12_goes_23 : decode cX12_goes 23 = .ok (.iconst (-1), 1) := by decide +kernel
theorem dX12_goes_24 : decode cX12_goes 24 = .ok (.if_icmp .eq 16, 3) := by decide +kernel
theorem dX12_goes_27 : decode cX12_goes 27 = .ok (.aload_n 0, 1) := by decide +kernel
theorem dX12_goes_28 : decode cX12_goes 28 = .ok (.getfield 352, 3) := by decide +kernel
theorem dX12_goes_31 : decode cX12_goes 31 = .ok (.aload_n 0, 1) := by decide +kernel
theorem dX12_goes_32 : decode cX12_goes 32 = .ok (.getfield 322, 3) := by decide +kernel
theorem dX12_goes_35 : decode cX12_goes 35 = .ok (.if_icmp .ge 5, 3) := by decide +kernel
theorem dX12_goes_38 : decode cX12_goes 38 = .ok (.iconst 0, 1) := by decide +kernel
theorem dX12_goes_39 : decode cX12_goes 39 = .ok (.ireturn, 1) := by decide +kernel
theorem dX12_goes_40 : decode cX12_goes 40 = .ok (.aload_n 0, 1) := by decide +kernel
theorem dX12_goes_41 : decode cX12_goes 41 = .ok (.iload_n 1, 1) := by decide +kernel
theorem dX12_goes_42 : decode cX12_goes 42 = .ok (.putfield 349, 3) := by decide +kernel
theorem dX12_goes_45 : decode cX12_goes 45 = .ok (.aload_n 0, 1) := by decide +kernel
theorem dX12_goes_46 : decode cX12_goes 46 = .ok (.iconst 0, 1) := by decide +kernel
theorem dX12_goes_47 : decode cX12_goes 47 = .ok (.putfield 352, 3) := by decide +kernel
theorem dX12_goes_50 : decode cX12_goes 50 = .ok (.aload_n 0, 1) := by decide +kernel
theorem dX12_goes_51 : decode cX12_goes 51 = .ok (.iconst (-1), 1) := by decide +kernel
theorem dX12_goes_52 : decode cX12_goes 52 = .ok (.putfield 355, 3) := by decide +kernel
theorem dX12_goes_55 : decode cX12_goes 55 = .ok (.aload_n 0, 1) := by decide +kernel
theorem dX12_goes_56 : decode cX12_goes 56 = .ok (.dup, 1) := by decide +kernel
theorem dX12_goes_57 : decode cX12_goes 57 = .ok (.getfield 370, 3) := by decide +kernel
theorem dX12_goes_60 : decode cX12_goes 60 = .ok (.iconst 1, 1) := by decide +kernel
theorem dX12_goes_61 : decode cX12_goes 61 = .ok (.iload_n 1, 1) := by decide +kernel
theorem dX12_goes_62 : decode cX12_goes 62 = .ok (.ishl, 1) := by decide +kernel
theorem dX12_goes_63 : decode cX12_goes 63 = .ok (.ior, 1) := by decide +kernel
theorem dX12_goes_64 : decode cX12_goes 64 = .ok (.putfield 370, 3) := by decide +kernel
theorem dX12_goes_67 : decode cX12_goes 67 = .ok (.iconst 1, 1) := by decide +kernel
theorem dX12_goes_68 : decode cX12_goes 68 = .ok (.ireturn, 1) := by decide +kernel
theorem dX12_rises_0 : decode cX12_rises 0 = .ok (.aload_n 0, 1) := by decide +kernel
theorem dX12_rises_1 : decode cX12_rises 1 = .ok (.getfield 358, 3) := by decide +kernel
theorem dX12_rises_4 : decode cX12_rises 4 = .ok (.iload_n 1, 1) := by decide +kernel
theorem dX12_rises_5 : decode cX12_rises 5 = .ok (.iadd, 1) := by decide +kernel
theorem dX12_rises_6 : decode cX12_rises 6 = .ok (.iconst 0, 1) := by decide +kernel
theorem dX12_rises_7 : decode cX12_rises 7 = .ok (.bipush 9, 2) := by decide +kernel
theorem dX12_rises_9 : decode cX12_rises 9 = .ok (.invokestatic 105, 3) := by decide +kernel
theorem dX12_rises_12 : decode cX12_rises 12 = .ok (.ifCond .ne 5, 3) := by decide +kernel
theorem dX12_rises_15 : decode cX12_rises 15 = .ok (.iconst 0, 1) := by decide +kernel
theorem dX12_rises_16 : decode cX12_rises 16 = .ok (.ireturn, 1) := by decide +kernel
theorem dX12_rises_17 : decode cX12_rises 17 = .ok (.aload_n 0, 1) := by decide +kernel
theorem dX12_rises_18 : decode cX12_rises 18 = .ok (.dup, 1) := by decide +kernel
theorem dX12_rises_19 : decode cX12_rises 19 = .ok (.getfield 358, 3) := by decide +kernel
theorem dX12_rises_22 : decode cX12_rises 22 = .ok (.iload_n 1, 1) := by decide +kernel
theorem dX12_rises_23 : decode cX12_rises 23 = .ok (.iadd, 1) := by decide +kernel
theorem dX12_rises_24 : decode cX12_rises 24 = .ok (.putfield 358, 3) := by decide +kernel
theorem dX12_rises_27 : decode cX12_rises 27 = .ok (.iconst 1, 1) := by decide +kernel
theorem dX12_rises_28 : decode cX12_rises 28 = .ok (.ireturn, 1) := by decide +kernel
theorem dX12_does_0 : decode cX12_does 0 = .ok (.aload_n 0, 1) := by decide +kernel
theorem dX12_does_1 : decode cX12_does 1 = .ok (.getfield 361, 3) := by decide +kernel
theorem dX12_does_4 : decode cX12_does 4 = .ok (.iconst (-1), 1) := by decide +kernel
theorem dX12_does_5 : decode cX12_does 5 = .ok (.if_icmp .ne 10, 3) := by decide +kernel
theorem dX12_does_8 : decode cX12_does 8 = .ok (.aload_n 0, 1) := by decide +kernel
theorem dX12_does_9 : decode cX12_does 9 = .ok (.getfield 367, 3) := by decide +kernel
theorem dX12_does_12 : decode cX12_does 12 = .ok (.ifCond .eq 5, 3) := by decide +kernel
theorem dX12_does_15 : decode cX12_does 15 = .ok (.iconst 0, 1) := by decide +kernel
theorem dX12_does_16 : decode cX12_does 16 = .ok (.ireturn, 1) := by decide +kernel
theorem dX12_does_17 : decode cX12_does 17 = .ok (.aload_n 0, 1) := by decide +kernel
theorem dX12_does_18 : decode cX12_does 18 = .ok (.iload_n 1, 1) := by decide +kernel
theorem dX12_does_19 : decode cX12_does 19 = .ok (.iconst 1, 1) := by decide +kernel
theorem dX12_does_20 : decode cX12_does 20 = .ok (.invokevirtual 346, 3) := by decide +kernel
theorem dX12_does_23 : decode cX12_does 23 = .ok (.istore_n 2, 1) := by decide +kernel
theorem dX12_does_24 : decode cX12_does 24 = .ok (.aload_n 0, 1) := by decide +kernel
theorem dX12_does_25 : decode cX12_does 25 = .ok (.iload_n 1, 1) := by decide +kernel
theorem dX12_does_26 : decode cX12_does 26 = .ok (.iconst 0, 1) := by decide +kernel
theorem dX12_does_27 : decode cX12_does 27 = .ok (.invokevirtual 346, 3) := by decide +kernel
theorem dX12_does_30 : decode cX12_does 30 = .ok (.tableswitch 90 0 4 #[34, 40, 64, 77, 83], 34) := by decide +kernel
theorem dX12_does_64 : decode cX12_does 64 = .ok (.aload_n 0, 1) := by decide +kernel
theorem dX12_does_65 : decode cX12_does 65 = .ok (.iload_n 2, 1) := by decide +kernel
theorem dX12_does_66 : decode cX12_does 66 = .ok (.invokevirtual 394, 3) := by decide +kernel
theorem dX12_does_69 : decode cX12_does 69 = .ok (.ireturn, 1) := by decide +kernel
theorem dX12_does_70 : decode cX12_does 70 = .ok (.aload_n 0, 1) := by decide +kernel
theorem dX12_does_71 : decode cX12_does 71 = .ok (.getfield 349, 3) := by decide +kernel
theorem dX12_does_74 : decode cX12_does 74 = .ok (.iconst (-1), 1) := by decide +kernel
theorem dX12_does_75 : decode cX12_does 75 = .ok (.if_icmp .eq 10, 3) := by decide +kernel
theorem dX12_does_78 : decode cX12_does 78 = .ok (.aload_n 0, 1) := by decide +kernel
theorem dX12_does_79 : decode cX12_does 79 = .ok (.getfield 352, 3) := by decide +kernel
theorem dX12_does_82 : decode cX12_does 82 = .ok (.ifCond .le 5, 3) := by decide +kernel
theorem dX12_does_85 : decode cX12_does 85 = .ok (.iconst 0, 1) := by decide +kernel
theorem dX12_does_86 : decode cX12_does 86 = .ok (.ireturn, 1) := by decide +kernel
theorem dX12_does_87 : decode cX12_does 87 = .ok (.aload_n 0, 1) := by decide +kernel
theorem dX12_does_88 : decode cX12_does 88 = .ok (.iload_n 2, 1) := by decide +kernel
theorem dX12_does_89 : decode cX12_does 89 = .ok (.putfield 355, 3) := by decide +kernel
theorem dX12_does_92 : decode cX12_does 92 = .ok (.iconst 1, 1) := by decide +kernel
theorem dX12_does_93 : decode cX12_does 93 = .ok (.ireturn, 1) := by decide +kernel
theorem dX12_does_94 : decode cX12_does 94 = .ok (.aload_n 0, 1) := by decide +kernel
theorem dX12_does_95 : decode cX12_does 95 = .ok (.iload_n 2, 1) := by decide +kernel
theorem dX12_does_96 : decode cX12_does 96 = .ok (.aload_n 0, 1) := by decide +kernel
theorem dX12_does_97 : decode cX12_does 97 = .ok (.iload_n 1, 1) := by decide +kernel
theorem dX12_does_98 : decode cX12_does 98 = .ok (.iconst 2, 1) := by decide +kernel
theorem dX12_does_99 : decode cX12_does 99 = .ok (.invokevirtual 346, 3) := by decide +kernel
theorem dX12_does_102 : decode cX12_does 102 = .ok (.iload_n 1, 1) := by decide +kernel
theorem dX12_does_103 : decode cX12_does 103 = .ok (.invokevirtual 397, 3) := by decide +kernel
theorem dX12_does_106 : decode cX12_does 106 = .ok (.ireturn, 1) := by decide +kernel
theorem dX12_does_107 : decode cX12_does 107 = .ok (.aload_n 0, 1) := by decide +kernel
theorem dX12_does_108 : decode cX12_does 108 = .ok (.iload_n 2, 1) := by decide +kernel
theorem dX12_does_109 : decode cX12_does 109 = .ok (.invokevirtual 400, 3) := by decide +kernel
theorem dX12_does_112 : decode cX12_does 112 = .ok (.ireturn, 1) := by decide +kernel
theorem dX12_does_113 : decode cX12_does 113 = .ok (.aload_n 0, 1) := by decide +kernel
theorem dX12_does_114 : decode cX12_does 114 = .ok (.iload_n 2, 1) := by decide +kernel
theorem dX12_does_115 : decode cX12_does 115 = .ok (.ineg, 1) := by decide +kernel
theorem dX12_does_116 : decode cX12_does 116 = .ok (.invokevirtual 400, 3) := by decide +kernel
theorem dX12_does_119 : decode cX12_does 119 = .ok (.ireturn, 1) := by decide +kernel
theorem dX12_does_120 : decode cX12_does 120 = .ok (.aload_n 0, 1) := by decide +kernel
theorem dX12_does_121 : decode cX12_does 121 = .ok (.aload_n 0, 1) := by decide +kernel
theorem dX12_does_122 : decode cX12_does 122 = .ok (.getfield 370, 3) := by decide +kernel
theorem dX12_does_125 : decode cX12_does 125 = .ok (.iconst 1, 1) := by decide +kernel
theorem dX12_does_126 : decode cX12_does 126 = .ok (.aload_n 0, 1) := by decide +kernel
theorem dX12_does_127 : decode cX12_does 127 = .ok (.getfield 319, 3) := by decide +kernel
theorem dX12_does_130 : decode cX12_does 130 = .ok (.ishl, 1) := by decide +kernel
theorem dX12_does_131 : decode cX12_does 131 = .ok (.iconst 1, 1) := by decide +kernel
theorem dX12_does_132 : decode cX12_does 132 = .ok (.isub, 1) := by decide +kernel
theorem dX12_does_133 : decode cX12_does 133 = .ok (.if_icmp .ne 7, 3) := by decide +kernel
theorem dX12_does_136 : decode cX12_does 136 = .ok (.iconst 1, 1) := by decide +kernel
theorem dX12_does_137 : decode cX12_does 137 = .ok (.goto 4, 3) := by decide +kernel
theorem dX12_does_140 : decode cX12_does 140 = .ok (.iconst 0, 1) := by decide +kernel
theorem dX12_does_141 : decode cX12_does 141 = .ok (.putfield 367, 3) := by decide +kernel
theorem dX12_does_144 : decode cX12_does 144 = .ok (.aload_n 0, 1) := by decide +kernel
theorem dX12_does_145 : decode cX12_does 145 = .ok (.getfield 367, 3) := by decide +kernel
theorem dX12_does_148 : decode cX12_does 148 = .ok (.ireturn, 1) := by decide +kernel
theorem dX12_play_0 : decode cX12_play 0 = .ok (.aload_n 0, 1) := by decide +kernel
theorem dX12_play_1 : decode cX12_play 1 = .ok (.iload_n 2, 1) := by decide +kernel
theorem dX12_play_2 : decode cX12_play 2 = .ok (.invokevirtual 403, 3) := by decide +kernel
theorem dX12_play_5 : decode cX12_play 5 = .ok (.iconst 0, 1) := by decide +kernel
theorem dX12_play_6 : decode cX12_play 6 = .ok (.istore_n 3, 1) := by decide +kernel
theorem dX12_play_7 : decode cX12_play 7 = .ok (.iload_n 3, 1) := by decide +kernel
theorem dX12_play_8 : decode cX12_play 8 = .ok (.iload_n 1, 1) := by decide +kernel
theorem dX12_play_9 : decode cX12_play 9 = .ok (.if_icmp .ge 17, 3) := by decide +kernel
theorem dX12_play_12 : decode cX12_play 12 = .ok (.aload_n 0, 1) := by decide +kernel
theorem dX12_play_13 : decode cX12_play 13 = .ok (.iload_n 3, 1) := by decide +kernel
theorem dX12_play_14 : decode cX12_play 14 = .ok (.invokevirtual 406, 3) := by decide +kernel
theorem dX12_play_17 : decode cX12_play 17 = .ok (.ifCond .eq 9, 3) := by decide +kernel
theorem dX12_play_20 : decode cX12_play 20 = .ok (.iinc 3 1, 3) := by decide +kernel
theorem dX12_play_23 : decode cX12_play 23 = .ok (.goto (-16), 3) := by decide +kernel
theorem dX12_play_26 : decode cX12_play 26 = .ok (.iload_n 3, 1) := by decide +kernel
theorem dX12_play_27 : decode cX12_play 27 = .ok (.ireturn, 1) := by decide +kernel
theorem dX12_belly_0 : decode cX12_belly 0 = .ok (.aload_n 0, 1) := by decide +kernel
theorem dX12_belly_1 : decode cX12_belly 1 = .ok (.bipush 19, 2) := by decide +kernel
theorem dX12_belly_3 : decode cX12_belly 3 = .ok (.invokevirtual 313, 3) := by decide +kernel
theorem dX12_belly_6 : decode cX12_belly 6 = .ok (.ireturn, 1) := by decide +kernel
theorem dX12_layState_0 : decode cX12_layState 0 = .ok (.aload_n 0, 1) := by decide +kernel
theorem dX12_layState_1 : decode cX12_layState 1 = .ok (.iload_n 2, 1) := by decide +kernel
theorem dX12_layState_2 : decode cX12_layState 2 = .ok (.invokevirtual 340, 3) := by decide +kernel
theorem dX12_layState_5 : decode cX12_layState 5 = .ok (.ifCond .eq 40, 3) := by decide +kernel
theorem dX12_layState_8 : decode cX12_layState 8 = .ok (.aload_n 0, 1) := by decide +kernel
theorem dX12_layState_9 : decode cX12_layState 9 = .ok (.iload_n 1, 1) := by decide +kernel
theorem dX12_layState_10 : decode cX12_layState 10 = .ok (.invokevirtual 328, 3) := by decide +kernel
theorem dX12_layState_13 : decode cX12_layState 13 = .ok (.ifCond .eq 32, 3) := by decide +kernel
theorem dX12_layState_16 : decode cX12_layState 16 = .ok (.iload_n 3, 1) := by decide +kernel
theorem dX12_layState_17 : decode cX12_layState 17 = .ok (.iconst 0, 1) := by decide +kernel
theorem dX12_layState_18 : decode cX12_layState 18 = .ok (.aload_n 0, 1) := by decide +kernel
theorem dX12_layState_19 : decode cX12_layState 19 = .ok (.invokevirtual 343, 3) := by decide +kernel
theorem dX12_layState_22 : decode cX12_layState 22 = .ok (.invokestatic 105, 3) := by decide +kernel
theorem dX12_layState_25 : decode cX12_layState 25 = .ok (.ifCond .eq 20, 3) := by decide +kernel
theorem dX12_layState_28 : decode cX12_layState 28 = .ok (.aload_n 0, 1) := by decide +kernel
theorem dX12_layState_29 : decode cX12_layState 29 = .ok (.iload_n 3, 1) := by decide +kernel
theorem dX12_layState_30 : decode cX12_layState 30 = .ok (.aload_n 0, 1) := by decide +kernel
theorem dX12_layState_31 : decode cX12_layState 31 = .ok (.invokevirtual 409, 3) := by decide +kernel
theorem dX12_layState_34 : decode cX12_layState 34 = .ok (.invokevirtual 412, 3) := by decide +kernel
theorem dX12_layState_37 : decode cX12_layState 37 = .ok (.iload_n 3, 1) := by decide +kernel
theorem dX12_layState_38 : decode cX12_layState 38 = .ok (.if_icmp .ne 7, 3) := by decide +kernel
theorem dX12_layState_41 : decode cX12_layState 41 = .ok (.iconst 1, 1) := by decide +kernel
theorem dX12_layState_42 : decode cX12_layState 42 = .ok (.goto 4, 3) := by decide +kernel
theorem dX12_layState_45 : decode cX12_layState 45 = .ok (.iconst 0, 1) := by decide +kernel
theorem dX12_layState_46 : decode cX12_layState 46 = .ok (.ireturn, 1) := by decide +kernel
theorem dX12_stop_0 : decode cX12_stop 0 = .ok (.aload_n 0, 1) := by decide +kernel
theorem dX12_stop_1 : decode cX12_stop 1 = .ok (.iconst 0, 1) := by decide +kernel
theorem dX12_stop_2 : decode cX12_stop 2 = .ok (.putfield 97, 3) := by decide +kernel
theorem dX12_stop_5 : decode cX12_stop 5 = .ok (.aload_n 0, 1) := by decide +kernel
theorem dX12_stop_6 : decode cX12_stop 6 = .ok (.iload_n 2, 1) := by decide +kernel
theorem dX12_stop_7 : decode cX12_stop 7 = .ok (.invokevirtual 340, 3) := by decide +kernel
theorem dX12_stop_10 : decode cX12_stop 10 = .ok (.ifCond .eq 26, 3) := by decide +kernel
theorem dX12_stop_13 : decode cX12_stop 13 = .ok (.aload_n 0, 1) := by decide +kernel
theorem dX12_stop_14 : decode cX12_stop 14 = .ok (.iload_n 1, 1) := by decide +kernel
theorem dX12_stop_15 : decode cX12_stop 15 = .ok (.invokevirtual 328, 3) := by decide +kernel
theorem dX12_stop_18 : decode cX12_stop 18 = .ok (.ifCond .eq 18, 3) := by decide +kernel
theorem dX12_stop_21 : decode cX12_stop 21 = .ok (.aload_n 0, 1) := by decide +kernel
theorem dX12_stop_22 : decode cX12_stop 22 = .ok (.aload_n 0, 1) := by decide +kernel
theorem dX12_stop_23 : decode cX12_stop 23 = .ok (.invokevirtual 343, 3) := by decide +kernel
theorem dX12_stop_26 : decode cX12_stop 26 = .ok (.aload_n 0, 1) := by decide +kernel
theorem dX12_stop_27 : decode cX12_stop 27 = .ok (.invokevirtual 409, 3) := by decide +kernel
theorem dX12_stop_30 : decode cX12_stop 30 = .ok (.invokevirtual 412, 3) := by decide +kernel
theorem dX12_stop_33 : decode cX12_stop 33 = .ok (.goto 4, 3) := by decide +kernel
theorem dX12_stop_36 : decode cX12_stop 36 = .ok (.iconst (-1), 1) := by decide +kernel
theorem dX12_stop_37 : decode cX12_stop 37 = .ok (.ireturn, 1) := by decide +kernel
theorem dX12_state_0 : decode cX12_state 0 = .ok (.aload_n 0, 1) := by decide +kernel
theorem dX12_state_1 : decode cX12_state 1 = .ok (.iconst 0, 1) := by decide +kernel
theorem dX12_state_2 : decode cX12_state 2 = .ok (.putfield 97, 3) := by decide +kernel
theorem dX12_state_5 : decode cX12_state 5 = .ok (.aload_n 0, 1) := by decide +kernel
theorem dX12_state_6 : decode cX12_state 6 = .ok (.iload_n 1, 1) := by decide +kernel
theorem dX12_state_7 : decode cX12_state 7 = .ok (.iload_n 2, 1) := by decide +kernel
theorem dX12_state_8 : decode cX12_state 8 = .ok (.iload_n 3, 1) := by decide +kernel
theorem dX12_state_9 : decode cX12_state 9 = .ok (.invokevirtual 415, 3) := by decide +kernel
theorem dX12_state_12 : decode cX12_state 12 = .ok (.ifCond .ne 6, 3) := by decide +kernel
theorem dX12_state_15 : decode cX12_state 15 = .ok (.bipush (-2), 2) := by decide +kernel
theorem dX12_state_17 : decode cX12_state 17 = .ok (.ireturn, 1) := by decide +kernel
theorem dX12_state_18 : decode cX12_state 18 = .ok (.iload 4, 2) := by decide +kernel
theorem dX12_state_20 : decode cX12_state 20 = .ok (.bipush 10, 2) := by decide +kernel
theorem dX12_state_22 : decode cX12_state 22 = .ok (.bipush 9, 2) := by decide +kernel
theorem dX12_state_24 : decode cX12_state 24 = .ok (.aload_n 0, 1) := by decide +kernel
theorem dX12_state_25 : decode cX12_state 25 = .ok (.getfield 316, 3) := by decide +kernel
theorem dX12_state_28 : decode cX12_state 28 = .ok (.iadd, 1) := by decide +kernel
theorem dX12_state_29 : decode cX12_state 29 = .ok (.invokestatic 105, 3) := by decide +kernel
theorem dX12_state_32 : decode cX12_state 32 = .ok (.ifCond .eq 14, 3) := by decide +kernel
theorem dX12_state_35 : decode cX12_state 35 = .ok (.aload_n 0, 1) := by decide +kernel
theorem dX12_state_36 : decode cX12_state 36 = .ok (.getfield 47, 3) := by decide +kernel
theorem dX12_state_39 : decode cX12_state 39 = .ok (.iload 4, 2) := by decide +kernel
theorem dX12_state_41 : decode cX12_state 41 = .ok (.bipush 10, 2) := by decide +kernel
theorem dX12_state_43 : decode cX12_state 43 = .ok (.isub, 1) := by decide +kernel
theorem dX12_state_44 : decode cX12_state 44 = .ok (.iaload, 1) := by decide +kernel
theorem dX12_state_45 : decode cX12_state 45 = .ok (.ireturn, 1) := by decide +kernel
theorem dX12_state_46 : decode cX12_state 46 = .ok (.iload 4, 2) := by decide +kernel
theorem dX12_state_48 : decode cX12_state 48 = .ok (.tableswitch 105 0 8 #[52, 57, 62, 67, 72, 77, 90, 95, 100], 52) := by decide +kernel
theorem dX12_state_100 : decode cX12_state 100 = .ok (.aload_n 0, 1) := by decide +kernel
theorem dX12_state_101 : decode cX12_state 101 = .ok (.getfield 349, 3) := by decide +kernel
theorem dX12_state_104 : decode cX12_state 104 = .ok (.ireturn, 1) := by decide +kernel
theorem dX12_state_105 : decode cX12_state 105 = .ok (.aload_n 0, 1) := by decide +kernel
theorem dX12_state_106 : decode cX12_state 106 = .ok (.getfield 352, 3) := by decide +kernel
theorem dX12_state_109 : decode cX12_state 109 = .ok (.ireturn, 1) := by decide +kernel
theorem dX12_state_110 : decode cX12_state 110 = .ok (.aload_n 0, 1) := by decide +kernel
theorem dX12_state_111 : decode cX12_state 111 = .ok (.getfield 355, 3) := by decide +kernel
theorem dX12_state_114 : decode cX12_state 114 = .ok (.ireturn, 1) := by decide +kernel
theorem dX12_state_115 : decode cX12_state 115 = .ok (.aload_n 0, 1) := by decide +kernel
theorem dX12_state_116 : decode cX12_state 116 = .ok (.getfield 358, 3) := by decide +kernel
theorem dX12_state_119 : decode cX12_state 119 = .ok (.ireturn, 1) := by decide +kernel
theorem dX12_state_120 : decode cX12_state 120 = .ok (.aload_n 0, 1) := by decide +kernel
theorem dX12_state_121 : decode cX12_state 121 = .ok (.getfield 361, 3) := by decide +kernel
theorem dX12_state_124 : decode cX12_state 124 = .ok (.ireturn, 1) := by decide +kernel
theorem dX12_state_125 : decode cX12_state 125 = .ok (.aload_n 0, 1) := by decide +kernel
theorem dX12_state_126 : decode cX12_state 126 = .ok (.getfield 367, 3) := by decide +kernel
theorem dX12_state_129 : decode cX12_state 129 = .ok (.ifCond .eq 7, 3) := by decide +kernel
theorem dX12_state_132 : decode cX12_state 132 = .ok (.iconst 1, 1) := by decide +kernel
theorem dX12_state_133 : decode cX12_state 133 = .ok (.goto 4, 3) := by decide +kernel
theorem dX12_state_136 : decode cX12_state 136 = .ok (.iconst 0, 1) := by decide +kernel
theorem dX12_state_137 : decode cX12_state 137 = .ok (.ireturn, 1) := by decide +kernel
theorem dX12_state_138 : decode cX12_state 138 = .ok (.aload_n 0, 1) := by decide +kernel
theorem dX12_state_139 : decode cX12_state 139 = .ok (.getfield 370, 3) := by decide +kernel
theorem dX12_state_142 : decode cX12_state 142 = .ok (.ireturn, 1) := by decide +kernel
theorem dX12_state_143 : decode cX12_state 143 = .ok (.aload_n 0, 1) := by decide +kernel
theorem dX12_state_144 : decode cX12_state 144 = .ok (.getfield 373, 3) := by decide +kernel
theorem dX12_state_147 : decode cX12_state 147 = .ok (.ireturn, 1) := by decide +kernel
theorem dX12_state_148 : decode cX12_state 148 = .ok (.aload_n 0, 1) := by decide +kernel
theorem dX12_state_149 : decode cX12_state 149 = .ok (.getfield 376, 3) := by decide +kernel
theorem dX12_state_152 : decode cX12_state 152 = .ok (.ireturn, 1) := by decide +kernel
theorem dX12_state_153 : decode cX12_state 153 = .ok (.bipush (-2), 2) := by decide +kernel
theorem dX12_state_155 : decode cX12_state 155 = .ok (.ireturn, 1) := by decide +kernel
theorem dX12_did_0 : decode cX12_did 0 = .ok (.aload_n 0, 1) := by decide +kernel
theorem dX12_did_1 : decode cX12_did 1 = .ok (.iconst 0, 1) := by decide +kernel
theorem dX12_did_2 : decode cX12_did 2 = .ok (.putfield 97, 3) := by decide +kernel
theorem dX12_did_5 : decode cX12_did 5 = .ok (.aload_n 0, 1) := by decide +kernel
theorem dX12_did_6 : decode cX12_did 6 = .ok (.iload_n 1, 1) := by decide +kernel
theorem dX12_did_7 : decode cX12_did 7 = .ok (.iload_n 2, 1) := by decide +kernel
theorem dX12_did_8 : decode cX12_did 8 = .ok (.iload_n 3, 1) := by decide +kernel
theorem dX12_did_9 : decode cX12_did 9 = .ok (.invokevirtual 415, 3) := by decide +kernel
theorem dX12_did_12 : decode cX12_did 12 = .ok (.ifCond .eq 37, 3) := by decide +kernel
theorem dX12_did_15 : decode cX12_did 15 = .ok (.aload_n 0, 1) := by decide +kernel
theorem dX12_did_16 : decode cX12_did 16 = .ok (.iload 4, 2) := by decide +kernel
theorem dX12_did_18 : decode cX12_did 18 = .ok (.invokevirtual 331, 3) := by decide +kernel
theorem dX12_did_21 : decode cX12_did 21 = .ok (.ifCond .eq 28, 3) := by decide +kernel
theorem dX12_did_24 : decode cX12_did 24 = .ok (.iload 5, 2) := by decide +kernel
theorem dX12_did_26 : decode cX12_did 26 = .ok (.iconst 0, 1) := by decide +kernel
theorem dX12_did_27 : decode cX12_did 27 = .ok (.iconst 3, 1) := by decide +kernel
theorem dX12_did_28 : decode cX12_did 28 = .ok (.invokestatic 105, 3) := by decide +kernel
theorem dX12_did_31 : decode cX12_did 31 = .ok (.ifCond .eq 18, 3) := by decide +kernel
theorem dX12_did_34 : decode cX12_did 34 = .ok (.aload_n 0, 1) := by decide +kernel
theorem dX12_did_35 : decode cX12_did 35 = .ok (.getfield 50, 3) := by decide +kernel
theorem dX12_did_38 : decode cX12_did 38 = .ok (.iconst 4, 1) := by decide +kernel
theorem dX12_did_39 : decode cX12_did 39 = .ok (.iload 4, 2) := by decide +kernel
theorem dX12_did_41 : decode cX12_did 41 = .ok (.imul, 1) := by decide +kernel
theorem dX12_did_42 : decode cX12_did 42 = .ok (.iload 5, 2) := by decide +kernel
theorem dX12_did_44 : decode cX12_did 44 = .ok (.iadd, 1) := by decide +kernel
theorem dX12_did_45 : decode cX12_did 45 = .ok (.iaload, 1) := by decide +kernel
theorem dX12_did_46 : decode cX12_did 46 = .ok (.goto 5, 3) := by decide +kernel
theorem dX12_did_49 : decode cX12_did 49 = .ok (.bipush (-2), 2) := by decide +kernel
theorem dX12_did_51 : decode cX12_did 51 = .ok (.ireturn, 1) := by decide +kernel
theorem dX12_goesSo_0 : decode cX12_goesSo 0 = .ok (.aload_n 0, 1) := by decide +kernel
theorem dX12_goesSo_1 : decode cX12_goesSo 1 = .ok (.iload_n 2, 1) := by decide +kernel
theorem dX12_goesSo_2 : decode cX12_goesSo 2 = .ok (.iload_n 1, 1) := by decide +kernel
theorem dX12_goesSo_3 : decode cX12_goesSo 3 = .ok (.invokevirtual 412, 3) := by decide +kernel
theorem dX12_goesSo_6 : decode cX12_goesSo 6 = .ok (.iload_n 2, 1) := by decide +kernel
theorem dX12_goesSo_7 : decode cX12_goesSo 7 = .ok (.if_icmp .lt 11, 3) := by decide +kernel
theorem dX12_goesSo_10 : decode cX12_goesSo 10 = .ok (.aload_n 0, 1) := by decide +kernel
theorem dX12_goesSo_11 : decode cX12_goesSo 11 = .ok (.getfield 364, 3) := by decide +kernel
theorem dX12_goesSo_14 : decode cX12_goesSo 14 = .ok (.iload_n 3, 1) := by decide +kernel
theorem dX12_goesSo_15 : decode cX12_goesSo 15 = .ok (.if_icmp .eq 5, 3) := by decide +kernel
theorem dX12_goesSo_18 : decode cX12_goesSo 18 = .ok (.iconst 0, 1) := by decide +kernel
theorem dX12_goesSo_19 : decode cX12_goesSo 19 = .ok (.ireturn, 1) := by decide +kernel
theorem dX12_goesSo_20 : decode cX12_goesSo 20 = .ok (.iconst 0, 1) := by decide +kernel
theorem dX12_goesSo_21 : decode cX12_goesSo 21 = .ok (.istore 4, 2) := by decide +kernel
theorem dX12_goesSo_23 : decode cX12_goesSo 23 = .ok (.iload 4, 2) := by decide +kernel
theorem dX12_goesSo_25 : decode cX12_goesSo 25 = .ok (.iload_n 2, 1) := by decide +kernel
theorem dX12_goesSo_26 : decode cX12_goesSo 26 = .ok (.if_icmp .ge 56, 3) := by decide +kernel
theorem dX12_goesSo_29 : decode cX12_goesSo 29 = .ok (.aload_n 0, 1) := by decide +kernel
theorem dX12_goesSo_30 : decode cX12_goesSo 30 = .ok (.iload 4, 2) := by decide +kernel
theorem dX12_goesSo_32 : decode cX12_goesSo 32 = .ok (.iconst 0, 1) := by decide +kernel
theorem dX12_goesSo_33 : decode cX12_goesSo 33 = .ok (.invokevirtual 346, 3) := by decide +kernel
theorem dX12_goesSo_36 : decode cX12_goesSo 36 = .ok (.iconst 2, 1) := by decide +kernel
theorem dX12_goesSo_37 : decode cX12_goesSo 37 = .ok (.if_icmp .ne 39, 3) := by decide +kernel
theorem dX12_goesSo_40 : decode cX12_goesSo 40 = .ok (.aload_n 0, 1) := by decide +kernel
theorem dX12_goesSo_41 : decode cX12_goesSo 41 = .ok (.getfield 53, 3) := by decide +kernel
theorem dX12_goesSo_44 : decode cX12_goesSo 44 = .ok (.iload 4, 2) := by decide +kernel
theorem dX12_goesSo_46 : decode cX12_goesSo 46 = .ok (.iaload, 1) := by decide +kernel
theorem dX12_goesSo_47 : decode cX12_goesSo 47 = .ok (.aload_n 0, 1) := by decide +kernel
theorem dX12_goesSo_48 : decode cX12_goesSo 48 = .ok (.getfield 59, 3) := by decide +kernel
theorem dX12_goesSo_51 : decode cX12_goesSo 51 = .ok (.iload 4, 2) := by decide +kernel
theorem dX12_goesSo_53 : decode cX12_goesSo 53 = .ok (.iaload, 1) := by decide +kernel
theorem dX12_goesSo_54 : decode cX12_goesSo 54 = .ok (.if_icmp .ne 20, 3) := by decide +kernel
theorem dX12_goesSo_57 : decode cX12_goesSo 57 = .ok (.aload_n 0, 1) := by decide +kernel
theorem dX12_goesSo_58 : decode cX12_goesSo 58 = .ok (.getfield 56, 3) := by decide +kernel
theorem dX12_goesSo_61 : decode cX12_goesSo 61 = .ok (.iload 4, 2) := by decide +kernel
theorem dX12_goesSo_63 : decode cX12_goesSo 63 = .ok (.iaload, 1) := by decide +kernel
theorem dX12_goesSo_64 : decode cX12_goesSo 64 = .ok (.aload_n 0, 1) := by decide +kernel
theorem dX12_goesSo_65 : decode cX12_goesSo 65 = .ok (.getfield 62, 3) := by decide +kernel
theorem dX12_goesSo_68 : decode cX12_goesSo 68 = .ok (.iload 4, 2) := by decide +kernel
theorem dX12_goesSo_70 : decode cX12_goesSo 70 = .ok (.iaload, 1) := by decide +kernel
theorem dX12_goesSo_71 : decode cX12_goesSo 71 = .ok (.if_icmp .eq 5, 3) := by decide +kernel
theorem dX12_goesSo_74 : decode cX12_goesSo 74 = .ok (.iconst 0, 1) := by decide +kernel
theorem dX12_goesSo_75 : decode cX12_goesSo 75 = .ok (.ireturn, 1) := by decide +kernel
theorem dX12_goesSo_76 : decode cX12_goesSo 76 = .ok (.iinc 4 1, 3) := by decide +kernel
theorem dX12_goesSo_79 : decode cX12_goesSo 79 = .ok (.goto (-56), 3) := by decide +kernel
theorem dX12_goesSo_82 : decode cX12_goesSo 82 = .ok (.iconst 1, 1) := by decide +kernel
theorem dX12_goesSo_83 : decode cX12_goesSo 83 = .ok (.ireturn, 1) := by decide +kernel
theorem dX12_span_0 : decode cX12_span 0 = .ok (.aload_n 0, 1) := by decide +kernel
theorem dX12_span_1 : decode cX12_span 1 = .ok (.iconst 0, 1) := by decide +kernel
theorem dX12_span_2 : decode cX12_span 2 = .ok (.putfield 97, 3) := by decide +kernel
theorem dX12_span_5 : decode cX12_span 5 = .ok (.aload_n 0, 1) := by decide +kernel
theorem dX12_span_6 : decode cX12_span 6 = .ok (.iload_n 2, 1) := by decide +kernel
theorem dX12_span_7 : decode cX12_span 7 = .ok (.invokevirtual 340, 3) := by decide +kernel
theorem dX12_span_10 : decode cX12_span 10 = .ok (.ifCond .eq 11, 3) := by decide +kernel
theorem dX12_span_13 : decode cX12_span 13 = .ok (.aload_n 0, 1) := by decide +kernel
theorem dX12_span_14 : decode cX12_span 14 = .ok (.iload_n 1, 1) := by decide +kernel
theorem dX12_span_15 : decode cX12_span 15 = .ok (.invokevirtual 328, 3) := by decide +kernel
theorem dX12_span_18 : decode cX12_span 18 = .ok (.ifCond .ne 5, 3) := by decide +kernel
theorem dX12_span_21 : decode cX12_span 21 = .ok (.iconst (-1), 1) := by decide +kernel
theorem dX12_span_22 : decode cX12_span 22 = .ok (.ireturn, 1) := by decide +kernel
theorem dX12_span_23 : decode cX12_span 23 = .ok (.aload_n 0, 1) := by decide +kernel
theorem dX12_span_24 : decode cX12_span 24 = .ok (.aload_n 0, 1) := by decide +kernel
theorem dX12_span_25 : decode cX12_span 25 = .ok (.invokevirtual 343, 3) := by decide +kernel
theorem dX12_span_28 : decode cX12_span 28 = .ok (.aload_n 0, 1) := by decide +kernel
theorem dX12_span_29 : decode cX12_span 29 = .ok (.invokevirtual 409, 3) := by decide +kernel
theorem dX12_span_32 : decode cX12_span 32 = .ok (.invokevirtual 412, 3) := by decide +kernel
theorem dX12_span_35 : decode cX12_span 35 = .ok (.istore 4, 2) := by decide +kernel
theorem dX12_span_37 : decode cX12_span 37 = .ok (.aload_n 0, 1) := by decide +kernel
theorem dX12_span_38 : decode cX12_span 38 = .ok (.getfield 364, 3) := by decide +kernel
theorem dX12_span_41 : decode cX12_span 41 = .ok (.istore 5, 2) := by decide +kernel
theorem dX12_span_43 : decode cX12_span 43 = .ok (.iconst 0, 1) := by decide +kernel
theorem dX12_span_44 : decode cX12_span 44 = .ok (.istore 6, 2) := by decide +kernel
theorem dX12_span_46 : decode cX12_span 46 = .ok (.iload 6, 2) := by decide +kernel
theorem dX12_span_48 : decode cX12_span 48 = .ok (.bipush 40, 2) := by decide +kernel
theorem dX12_span_50 : decode cX12_span 50 = .ok (.if_icmp .ge 37, 3) := by decide +kernel
theorem dX12_span_53 : decode cX12_span 53 = .ok (.aload_n 0, 1) := by decide +kernel
theorem dX12_span_54 : decode cX12_span 54 = .ok (.getfield 59, 3) := by decide +kernel
theorem dX12_span_57 : decode cX12_span 57 = .ok (.iload 6, 2) := by decide +kernel
theorem dX12_span_59 : decode cX12_span 59 = .ok (.aload_n 0, 1) := by decide +kernel
theorem dX12_span_60 : decode cX12_span 60 = .ok (.getfield 53, 3) := by decide +kernel
theorem dX12_span_63 : decode cX12_span 63 = .ok (.iload 6, 2) := by decide +kernel
theorem dX12_span_65 : decode cX12_span 65 = .ok (.iaload, 1) := by decide +kernel
theorem dX12_span_66 : decode cX12_span 66 = .ok (.iastore, 1) := by decide +kernel
theorem dX12_span_67 : decode cX12_span 67 = .ok (.aload_n 0, 1) := by decide +kernel
theorem dX12_span_68 : decode cX12_span 68 = .ok (.getfield 62, 3) := by decide +kernel
theorem dX12_span_71 : decode cX12_span 71 = .ok (.iload 6, 2) := by decide +kernel
theorem dX12_span_73 : decode cX12_span 73 = .ok (.aload_n 0, 1) := by decide +kernel
theorem dX12_span_74 : decode cX12_span 74 = .ok (.getfield 56, 3) := by decide +kernel
theorem dX12_span_77 : decode cX12_span 77 = .ok (.iload 6, 2) := by decide +kernel
theorem dX12_span_79 : decode cX12_span 79 = .ok (.iaload, 1) := by decide +kernel
theorem dX12_span_80 : decode cX12_span 80 = .ok (.iastore, 1) := by decide +kernel
theorem dX12_span_81 : decode cX12_span 81 = .ok (.iinc 6 1, 3) := by decide +kernel
theorem dX12_span_84 : decode cX12_span 84 = .ok (.goto (-38), 3) := by decide +kernel
theorem dX12_span_87 : decode cX12_span 87 = .ok (.iconst (-1), 1) := by decide +kernel
theorem dX12_span_88 : decode cX12_span 88 = .ok (.istore 6, 2) := by decide +kernel
theorem dX12_span_90 : decode cX12_span 90 = .ok (.iconst 1, 1) := by decide +kernel
theorem dX12_span_91 : decode cX12_span 91 = .ok (.istore 7, 2) := by decide +kernel
theorem dX12_span_93 : decode cX12_span 93 = .ok (.iload 7, 2) := by decide +kernel
theorem dX12_span_95 : decode cX12_span 95 = .ok (.bipush 30, 2) := by decide +kernel
theorem dX12_span_97 : decode cX12_span 97 = .ok (.if_icmp .gt 41, 3) := by decide +kernel
theorem dX12_span_100 : decode cX12_span 100 = .ok (.aload_n 0, 1) := by decide +kernel
theorem dX12_span_101 : decode cX12_span 101 = .ok (.iload 7, 2) := by decide +kernel
theorem dX12_span_103 : decode cX12_span 103 = .ok (.iload 4, 2) := by decide +kernel
theorem dX12_span_105 : decode cX12_span 105 = .ok (.iload 5, 2) := by decide +kernel
theorem dX12_span_107 : decode cX12_span 107 = .ok (.invokevirtual 418, 3) := by decide +kernel
theorem dX12_span_110 : decode cX12_span 110 = .ok (.ifCond .eq 22, 3) := by decide +kernel
theorem dX12_span_113 : decode cX12_span 113 = .ok (.iload_n 3, 1) := by decide +kernel
theorem dX12_span_114 : decode cX12_span 114 = .ok (.ifCond .ne 9, 3) := by decide +kernel
theorem dX12_span_117 : decode cX12_span 117 = .ok (.iload 6, 2) := by decide +kernel
theorem dX12_span_119 : decode cX12_span 119 = .ok (.iconst (-1), 1) := by decide +kernel
theorem dX12_span_120 : decode cX12_span 120 = .ok (.if_icmp .ne 8, 3) := by decide +kernel
theorem dX12_span_123 : decode cX12_span 123 = .ok (.iload 7, 2) := by decide +kernel
theorem dX12_span_125 : decode cX12_span 125 = .ok (.goto 5, 3) := by decide +kernel
theorem dX12_span_128 : decode cX12_span 128 = .ok (.iload 6, 2) := by decide +kernel
theorem dX12_span_130 : decode cX12_span 130 = .ok (.istore 6, 2) := by decide +kernel
theorem dX12_span_132 : decode cX12_span 132 = .ok (.iinc 7 1, 3) := by decide +kernel
theorem dX12_span_135 : decode cX12_span 135 = .ok (.goto (-42), 3) := by decide +kernel
theorem dX12_span_138 : decode cX12_span 138 = .ok (.iload 6, 2) := by decide +kernel
theorem dX12_span_140 : decode cX12_span 140 = .ok (.ireturn, 1) := by decide +kernel
theorem dX12_clueOf_0 : decode cX12_clueOf 0 = .ok (.aload_n 0, 1) := by decide +kernel
theorem dX12_clueOf_1 : decode cX12_clueOf 1 = .ok (.getfield 32, 3) := by decide +kernel
theorem dX12_clueOf_4 : decode cX12_clueOf 4 = .ok (.bipush 33, 2) := by decide +kernel
theorem dX12_clueOf_6 : decode cX12_clueOf 6 = .ok (.aload_n 0, 1) := by decide +kernel
theorem dX12_clueOf_7 : decode cX12_clueOf 7 = .ok (.getfield 421, 3) := by decide +kernel
theorem dX12_clueOf_10 : decode cX12_clueOf 10 = .ok (.imul, 1) := by decide +kernel
theorem dX12_clueOf_11 : decode cX12_clueOf 11 = .ok (.bipush 9, 2) := by decide +kernel
theorem dX12_clueOf_13 : decode cX12_clueOf 13 = .ok (.iadd, 1) := by decide +kernel
theorem dX12_clueOf_14 : decode cX12_clueOf 14 = .ok (.iconst 3, 1) := by decide +kernel
theorem dX12_clueOf_15 : decode cX12_clueOf 15 = .ok (.iload_n 1, 1) := by decide +kernel
theorem dX12_clueOf_16 : decode cX12_clueOf 16 = .ok (.imul, 1) := by decide +kernel
theorem dX12_clueOf_17 : decode cX12_clueOf 17 = .ok (.iadd, 1) := by decide +kernel
theorem dX12_clueOf_18 : decode cX12_clueOf 18 = .ok (.iload_n 2, 1) := by decide +kernel
theorem dX12_clueOf_19 : decode cX12_clueOf 19 = .ok (.iadd, 1) := by decide +kernel
theorem dX12_clueOf_20 : decode cX12_clueOf 20 = .ok (.iaload, 1) := by decide +kernel
theorem dX12_clueOf_21 : decode cX12_clueOf 21 = .ok (.ireturn, 1) := by decide +kernel
theorem dX12_cluesTold_0 : decode cX12_cluesTold 0 = .ok (.aload_n 0, 1) := by decide +kernel
theorem dX12_cluesTold_1 : decode cX12_cluesTold 1 = .ok (.getfield 32, 3) := by decide +kernel
theorem dX12_cluesTold_4 : decode cX12_cluesTold 4 = .ok (.bipush 33, 2) := by decide +kernel
theorem dX12_cluesTold_6 : decode cX12_cluesTold 6 = .ok (.aload_n 0, 1) := by decide +kernel
theorem dX12_cluesTold_7 : decode cX12_cluesTold 7 = .ok (.getfield 421, 3) := by decide +kernel
theorem dX12_cluesTold_10 : decode cX12_cluesTold 10 = .ok (.imul, 1) := by decide +kernel
theorem dX12_cluesTold_11 : decode cX12_cluesTold 11 = .ok (.iaload, 1) := by decide +kernel
theorem dX12_cluesTold_12 : decode cX12_cluesTold 12 = .ok (.ireturn, 1) := by decide +kernel
theorem dX12_hasClues_0 : decode cX12_hasClues 0 = .ok (.aload_n 0, 1) := by decide +kernel
theorem dX12_hasClues_1 : decode cX12_hasClues 1 = .ok (.iload_n 1, 1) := by decide +kernel
theorem dX12_hasClues_2 : decode cX12_hasClues 2 = .ok (.putfield 421, 3) := by decide +kernel
theorem dX12_hasClues_5 : decode cX12_hasClues 5 = .ok (.aload_n 0, 1) := by decide +kernel
theorem dX12_hasClues_6 : decode cX12_hasClues 6 = .ok (.iconst 2, 1) := by decide +kernel
theorem dX12_hasClues_7 : decode cX12_hasClues 7 = .ok (.iload_n 1, 1) := by decide +kernel
theorem dX12_hasClues_8 : decode cX12_hasClues 8 = .ok (.invokevirtual 301, 3) := by decide +kernel
theorem dX12_hasClues_11 : decode cX12_hasClues 11 = .ok (.ireturn, 1) := by decide +kernel
theorem dX12_clue_0 : decode cX12_clue 0 = .ok (.aload_n 0, 1) := by decide +kernel
theorem dX12_clue_1 : decode cX12_clue 1 = .ok (.iconst 0, 1) := by decide +kernel
theorem dX12_clue_2 : decode cX12_clue 2 = .ok (.putfield 97, 3) := by decide +kernel
theorem dX12_clue_5 : decode cX12_clue 5 = .ok (.aload_n 0, 1) := by decide +kernel
theorem dX12_clue_6 : decode cX12_clue 6 = .ok (.iload_n 1, 1) := by decide +kernel
theorem dX12_clue_7 : decode cX12_clue 7 = .ok (.invokevirtual 424, 3) := by decide +kernel
theorem dX12_clue_10 : decode cX12_clue 10 = .ok (.ifCond .ne 6, 3) := by decide +kernel
theorem dX12_clue_13 : decode cX12_clue 13 = .ok (.bipush (-2), 2) := by decide +kernel
theorem dX12_clue_15 : decode cX12_clue 15 = .ok (.ireturn, 1) := by decide +kernel
theorem dX12_clue_16 : decode cX12_clue 16 = .ok (.iload_n 2, 1) := by decide +kernel
theorem dX12_clue_17 : decode cX12_clue 17 = .ok (.iconst (-1), 1) := by decide +kernel
theorem dX12_clue_18 : decode cX12_clue 18 = .ok (.if_icmp .ne 47, 3) := by decide +kernel
theorem dX12_clue_21 : decode cX12_clue 21 = .ok (.iload_n 3, 1) := by decide +kernel
theorem dX12_clue_22 : decode cX12_clue 22 = .ok (.ifCond .ne 10, 3) := by decide +kernel
theorem dX12_clue_25 : decode cX12_clue 25 = .ok (.aload_n 0, 1) := by decide +kernel
theorem dX12_clue_26 : decode cX12_clue 26 = .ok (.invokevirtual 427, 3) := by decide +kernel
theorem dX12_clue_29 : decode cX12_clue 29 = .ok (.goto 35, 3) := by decide +kernel
theorem dX12_clue_32 : decode cX12_clue 32 = .ok (.iload_n 3, 1) := by decide +kernel
theorem dX12_clue_33 : decode cX12_clue 33 = .ok (.bipush 10, 2) := by decide +kernel
theorem dX12_clue_35 : decode cX12_clue 35 = .ok (.bipush 17, 2) := by decide +kernel
theorem dX12_clue_37 : decode cX12_clue 37 = .ok (.invokestatic 105, 3) := by decide +kernel
theorem dX12_clue_40 : decode cX12_clue 40 = .ok (.ifCond .eq 22, 3) := by decide +kernel
theorem dX12_clue_43 : decode cX12_clue 43 = .ok (.aload_n 0, 1) := by decide +kernel
theorem dX12_clue_44 : decode cX12_clue 44 = .ok (.getfield 32, 3) := by decide +kernel
theorem dX12_clue_47 : decode cX12_clue 47 = .ok (.bipush 33, 2) := by decide +kernel
theorem dX12_clue_49 : decode cX12_clue 49 = .ok (.iload_n 1, 1) := by decide +kernel
theorem dX12_clue_50 : decode cX12_clue 50 = .ok (.imul, 1) := by decide +kernel
theorem dX12_clue_51 : decode cX12_clue 51 = .ok (.iconst 1, 1) := by decide +kernel
theorem dX12_clue_52 : decode cX12_clue 52 = .ok (.iadd, 1) := by decide +kernel
theorem dX12_clue_53 : decode cX12_clue 53 = .ok (.iload_n 3, 1) := by decide +kernel
theorem dX12_clue_54 : decode cX12_clue 54 = .ok (.iadd, 1) := by decide +kernel
theorem dX12_clue_55 : decode cX12_clue 55 = .ok (.bipush 10, 2) := by decide +kernel
theorem dX12_clue_57 : decode cX12_clue 57 = .ok (.isub, 1) := by decide +kernel
theorem dX12_clue_58 : decode cX12_clue 58 = .ok (.iaload, 1) := by decide +kernel
theorem dX12_clue_59 : decode cX12_clue 59 = .ok (.goto 5, 3) := by decide +kernel
theorem dX12_clue_62 : decode cX12_clue 62 = .ok (.bipush (-2), 2) := by decide +kernel
theorem dX12_clue_64 : decode cX12_clue 64 = .ok (.ireturn, 1) := by decide +kernel
theorem dX12_clue_65 : decode cX12_clue 65 = .ok (.iload_n 2, 1) := by decide +kernel
theorem dX12_clue_66 : decode cX12_clue 66 = .ok (.iconst 0, 1) := by decide +kernel
theorem dX12_clue_67 : decode cX12_clue 67 = .ok (.aload_n 0, 1) := by decide +kernel
theorem dX12_clue_68 : decode cX12_clue 68 = .ok (.invokevirtual 427, 3) := by decide +kernel
theorem dX12_clue_71 : decode cX12_clue 71 = .ok (.iconst 1, 1) := by decide +kernel
theorem dX12_clue_72 : decode cX12_clue 72 = .ok (.isub, 1) := by decide +kernel
theorem dX12_clue_73 : decode cX12_clue 73 = .ok (.invokestatic 105, 3) := by decide +kernel
theorem dX12_clue_76 : decode cX12_clue 76 = .ok (.ifCond .eq 21, 3) := by decide +kernel
theorem dX12_clue_79 : decode cX12_clue 79 = .ok (.iload_n 3, 1) := by decide +kernel
theorem dX12_clue_80 : decode cX12_clue 80 = .ok (.iconst 0, 1) := by decide +kernel
theorem dX12_clue_81 : decode cX12_clue 81 = .ok (.iconst 2, 1) := by decide +kernel
theorem dX12_clue_82 : decode cX12_clue 82 = .ok (.invokestatic 105, 3) := by decide +kernel
theorem dX12_clue_85 : decode cX12_clue 85 = .ok (.ifCond .eq 12, 3) := by decide +kernel
theorem dX12_clue_88 : decode cX12_clue 88 = .ok (.aload_n 0, 1) := by decide +kernel
theorem dX12_clue_89 : decode cX12_clue 89 = .ok (.iload_n 2, 1) := by decide +kernel
theorem dX12_clue_90 : decode cX12_clue 90 = .ok (.iload_n 3, 1) := by decide +kernel
theorem dX12_clue_91 : decode cX12_clue 91 = .ok (.invokevirtual 430, 3) := by decide +kernel
theorem dX12_clue_94 : decode cX12_clue 94 = .ok (.goto 5, 3) := by decide +kernel
theorem dX12_clue_97 : decode cX12_clue 97 = .ok (.bipush (-2), 2) := by decide +kernel
theorem dX12_clue_99 : decode cX12_clue 99 = .ok (.ireturn, 1) := by decide +kernel
theorem dX12_weightBy_0 : decode cX12_weightBy 0 = .ok (.aload_n 0, 1) := by decide +kernel
theorem dX12_weightBy_1 : decode cX12_weightBy 1 = .ok (.iload_n 1, 1) := by decide +kernel
theorem dX12_weightBy_2 : decode cX12_weightBy 2 = .ok (.iconst 2, 1) := by decide +kernel
theorem dX12_weightBy_3 : decode cX12_weightBy 3 = .ok (.invokevirtual 430, 3) := by decide +kernel
theorem dX12_weightBy_6 : decode cX12_weightBy 6 = .ok (.iload_n 2, 1) := by decide +kernel
theorem dX12_weightBy_7 : decode cX12_weightBy 7 = .ok (.invokestatic 384, 3) := by decide +kernel
theorem dX12_weightBy_10 : decode cX12_weightBy 10 = .ok (.istore_n 3, 1) := by decide +kernel
theorem dX12_weightBy_11 : decode cX12_weightBy 11 = .ok (.aload_n 0, 1) := by decide +kernel
theorem dX12_weightBy_12 : decode cX12_weightBy 12 = .ok (.iload_n 1, 1) := by decide +kernel
theorem dX12_weightBy_13 : decode cX12_weightBy 13 = .ok (.iconst 0, 1) := by decide +kernel
theorem dX12_weightBy_14 : decode cX12_weightBy 14 = .ok (.invokevirtual 430, 3) := by decide +kernel
theorem dX12_weightBy_17 : decode cX12_weightBy 17 = .ok (.tableswitch 90 0 2 #[27, 68, 79], 27) := by decide +kernel
theorem dX12_weightBy_44 : decode cX12_weightBy 44 = .ok (.aload_n 0, 1) := by decide +kernel
theorem dX12_weightBy_45 : decode cX12_weightBy 45 = .ok (.getfield 32, 3) := by decide +kernel
theorem dX12_weightBy_48 : decode cX12_weightBy 48 = .ok (.bipush 33, 2) := by decide +kernel
theorem dX12_weightBy_50 : decode cX12_weightBy 50 = .ok (.aload_n 0, 1) := by decide +kernel
theorem dX12_weightBy_51 : decode cX12_weightBy 51 = .ok (.getfield 421, 3) := by decide +kernel
theorem dX12_weightBy_54 : decode cX12_weightBy 54 = .ok (.imul, 1) := by decide +kernel
theorem dX12_weightBy_55 : decode cX12_weightBy 55 = .ok (.iconst 1, 1) := by decide +kernel
theorem dX12_weightBy_56 : decode cX12_weightBy 56 = .ok (.iadd, 1) := by decide +kernel
theorem dX12_weightBy_57 : decode cX12_weightBy 57 = .ok (.aload_n 0, 1) := by decide +kernel
theorem dX12_weightBy_58 : decode cX12_weightBy 58 = .ok (.iload_n 1, 1) := by decide +kernel
theorem dX12_weightBy_59 : decode cX12_weightBy 59 = .ok (.iconst 1, 1) := by decide +kernel
theorem dX12_weightBy_60 : decode cX12_weightBy 60 = .ok (.invokevirtual 430, 3) := by decide +kernel
theorem dX12_weightBy_63 : decode cX12_weightBy 63 = .ok (.iadd, 1) := by decide +kernel
theorem dX12_weightBy_64 : decode cX12_weightBy 64 = .ok (.iaload, 1) := by decide +kernel
theorem dX12_weightBy_65 : decode cX12_weightBy 65 = .ok (.istore 4, 2) := by decide +kernel
theorem dX12_weightBy_67 : decode cX12_weightBy 67 = .ok (.iload_n 3, 1) := by decide +kernel
theorem dX12_weightBy_68 : decode cX12_weightBy 68 = .ok (.ifCond .ne 11, 3) := by decide +kernel
theorem dX12_weightBy_71 : decode cX12_weightBy 71 = .ok (.bipush 7, 2) := by decide +kernel
theorem dX12_weightBy_73 : decode cX12_weightBy 73 = .ok (.iload 4, 2) := by decide +kernel
theorem dX12_weightBy_75 : decode cX12_weightBy 75 = .ok (.imul, 1) := by decide +kernel
theorem dX12_weightBy_76 : decode cX12_weightBy 76 = .ok (.goto 8, 3) := by decide +kernel
theorem dX12_weightBy_79 : decode cX12_weightBy 79 = .ok (.bipush 10, 2) := by decide +kernel
theorem dX12_weightBy_81 : decode cX12_weightBy 81 = .ok (.iload 4, 2) := by decide +kernel
theorem dX12_weightBy_83 : decode cX12_weightBy 83 = .ok (.isub, 1) := by decide +kernel
theorem dX12_weightBy_84 : decode cX12_weightBy 84 = .ok (.ireturn, 1) := by decide +kernel
theorem dX12_weightBy_85 : decode cX12_weightBy 85 = .ok (.iload_n 3, 1) := by decide +kernel
theorem dX12_weightBy_86 : decode cX12_weightBy 86 = .ok (.iconst 2, 1) := by decide +kernel
theorem dX12_weightBy_87 : decode cX12_weightBy 87 = .ok (.if_icmp .lt 7, 3) := by decide +kernel
theorem dX12_weightBy_90 : decode cX12_weightBy 90 = .ok (.iconst 1, 1) := by decide +kernel
theorem dX12_weightBy_91 : decode cX12_weightBy 91 = .ok (.goto 4, 3) := by decide +kernel
theorem dX12_weightBy_94 : decode cX12_weightBy 94 = .ok (.iconst 0, 1) := by decide +kernel
theorem dX12_weightBy_95 : decode cX12_weightBy 95 = .ok (.ireturn, 1) := by decide +kernel
theorem dX12_weightBy_96 : decode cX12_weightBy 96 = .ok (.iload_n 3, 1) := by decide +kernel
theorem dX12_weightBy_97 : decode cX12_weightBy 97 = .ok (.iconst 1, 1) := by decide +kernel
theorem dX12_weightBy_98 : decode cX12_weightBy 98 = .ok (.if_icmp .ne 7, 3) := by decide +kernel
theorem dX12_weightBy_101 : decode cX12_weightBy 101 = .ok (.iconst 1, 1) := by decide +kernel
theorem dX12_weightBy_102 : decode cX12_weightBy 102 = .ok (.goto 4, 3) := by decide +kernel
theorem dX12_weightBy_105 : decode cX12_weightBy 105 = .ok (.iconst 0, 1) := by decide +kernel
theorem dX12_weightBy_106 : decode cX12_weightBy 106 = .ok (.ireturn, 1) := by decide +kernel
theorem dX12_weightBy_107 : decode cX12_weightBy 107 = .ok (.iload_n 3, 1) := by decide +kernel
theorem dX12_weightBy_108 : decode cX12_weightBy 108 = .ok (.ifCond .ne 7, 3) := by decide +kernel
theorem dX12_weightBy_111 : decode cX12_weightBy 111 = .ok (.iconst 1, 1) := by decide +kernel
theorem dX12_weightBy_112 : decode cX12_weightBy 112 = .ok (.goto 4, 3) := by decide +kernel
theorem dX12_weightBy_115 : decode cX12_weightBy 115 = .ok (.iconst 0, 1) := by decide +kernel
theorem dX12_weightBy_116 : decode cX12_weightBy 116 = .ok (.ireturn, 1) := by decide +kernel
theorem dX12_weigh_0 : decode cX12_weigh 0 = .ok (.aload_n 0, 1) := by decide +kernel
theorem dX12_weigh_1 : decode cX12_weigh 1 = .ok (.lconst 0, 1) := by decide +kernel
theorem dX12_weigh_2 : decode cX12_weigh 2 = .ok (.putfield 433, 3) := by decide +kernel
theorem dX12_weigh_5 : decode cX12_weigh 5 = .ok (.iconst 0, 1) := by decide +kernel
theorem dX12_weigh_6 : decode cX12_weigh 6 = .ok (.istore_n 2, 1) := by decide +kernel
theorem dX12_weigh_7 : decode cX12_weigh 7 = .ok (.iload_n 2, 1) := by decide +kernel
theorem dX12_weigh_8 : decode cX12_weigh 8 = .ok (.bipush 8, 2) := by decide +kernel
theorem dX12_weigh_10 : decode cX12_weigh 10 = .ok (.if_icmp .ge 75, 3) := by decide +kernel
theorem dX12_weigh_13 : decode cX12_weigh 13 = .ok (.aload_n 0, 1) := by decide +kernel
theorem dX12_weigh_14 : decode cX12_weigh 14 = .ok (.bipush 7, 2) := by decide +kernel
theorem dX12_weigh_16 : decode cX12_weigh 16 = .ok (.iload_n 2, 1) := by decide +kernel
theorem dX12_weigh_17 : decode cX12_weigh 17 = .ok (.iadd, 1) := by decide +kernel
theorem dX12_weigh_18 : decode cX12_weigh 18 = .ok (.invokevirtual 313, 3) := by decide +kernel
theorem dX12_weigh_21 : decode cX12_weigh 21 = .ok (.i2l, 1) := by decide +kernel
theorem dX12_weigh_22 : decode cX12_weigh 22 = .ok (.lstore_n 3, 1) := by decide +kernel
theorem dX12_weigh_23 : decode cX12_weigh 23 = .ok (.iconst 0, 1) := by decide +kernel
theorem dX12_weigh_24 : decode cX12_weigh 24 = .ok (.istore 5, 2) := by decide +kernel
theorem dX12_weigh_26 : decode cX12_weigh 26 = .ok (.iload 5, 2) := by decide +kernel
theorem dX12_weigh_28 : decode cX12_weigh 28 = .ok (.aload_n 0, 1) := by decide +kernel
theorem dX12_weigh_29 : decode cX12_weigh 29 = .ok (.invokevirtual 427, 3) := by decide +kernel
theorem dX12_weigh_32 : decode cX12_weigh 32 = .ok (.if_icmp .ge 30, 3) := by decide +kernel
theorem dX12_weigh_35 : decode cX12_weigh 35 = .ok (.iload 5, 2) := by decide +kernel
theorem dX12_weigh_37 : decode cX12_weigh 37 = .ok (.iload_n 1, 1) := by decide +kernel
theorem dX12_weigh_38 : decode cX12_weigh 38 = .ok (.if_icmp .ne 7, 3) := by decide +kernel
theorem dX12_weigh_41 : decode cX12_weigh 41 = .ok (.lload_n 3, 1) := by decide +kernel
theorem dX12_weigh_42 : decode cX12_weigh 42 = .ok (.goto 13, 3) := by decide +kernel
theorem dX12_weigh_45 : decode cX12_weigh 45 = .ok (.lload_n 3, 1) := by decide +kernel
theorem dX12_weigh_46 : decode cX12_weigh 46 = .ok (.aload_n 0, 1) := by decide +kernel
theorem dX12_weigh_47 : decode cX12_weigh 47 = .ok (.iload 5, 2) := by decide +kernel
theorem dX12_weigh_49 : decode cX12_weigh 49 = .ok (.iload_n 2, 1) := by decide +kernel
theorem dX12_weigh_50 : decode cX12_weigh 50 = .ok (.invokevirtual 436, 3) := by decide +kernel
theorem dX12_weigh_53 : decode cX12_weigh 53 = .ok (.i2l, 1) := by decide +kernel
theorem dX12_weigh_54 : decode cX12_weigh 54 = .ok (.lmul, 1) := by decide +kernel
theorem dX12_weigh_55 : decode cX12_weigh 55 = .ok (.lstore_n 3, 1) := by decide +kernel
theorem dX12_weigh_56 : decode cX12_weigh 56 = .ok (.iinc 5 1, 3) := by decide +kernel
theorem dX12_weigh_59 : decode cX12_weigh 59 = .ok (.goto (-33), 3) := by decide +kernel
theorem dX12_weigh_62 : decode cX12_weigh 62 = .ok (.aload_n 0, 1) := by decide +kernel
theorem dX12_weigh_63 : decode cX12_weigh 63 = .ok (.getfield 65, 3) := by decide +kernel
theorem dX12_weigh_66 : decode cX12_weigh 66 = .ok (.iload_n 2, 1) := by decide +kernel
theorem dX12_weigh_67 : decode cX12_weigh 67 = .ok (.lload_n 3, 1) := by decide +kernel
theorem dX12_weigh_68 : decode cX12_weigh 68 = .ok (.lastore, 1) := by decide +kernel
theorem dX12_weigh_69 : decode cX12_weigh 69 = .ok (.aload_n 0, 1) := by decide +kernel
theorem dX12_weigh_70 : decode cX12_weigh 70 = .ok (.dup, 1) := by decide +kernel
theorem dX12_weigh_71 : decode cX12_weigh 71 = .ok (.getfield 433, 3) := by decide +kernel
theorem dX12_weigh_74 : decode cX12_weigh 74 = .ok (.lload_n 3, 1) := by decide +kernel
theorem dX12_weigh_75 : decode cX12_weigh 75 = .ok (.ladd, 1) := by decide +kernel
theorem dX12_weigh_76 : decode cX12_weigh 76 = .ok (.putfield 433, 3) := by decide +kernel
theorem dX12_weigh_79 : decode cX12_weigh 79 = .ok (.iinc 2 1, 3) := by decide +kernel
theorem dX12_weigh_82 : decode cX12_weigh 82 = .ok (.goto (-75), 3) := by decide +kernel
theorem dX12_weigh_85 : decode cX12_weigh 85 = .ok (.return_, 1) := by decide +kernel
theorem dX12_around_0 : decode cX12_around 0 = .ok (.lload_n 2, 1) := by decide +kernel
theorem dX12_around_1 : decode cX12_around 1 = .ok (.aload_n 0, 1) := by decide +kernel
theorem dX12_around_2 : decode cX12_around 2 = .ok (.getfield 65, 3) := by decide +kernel
theorem dX12_around_5 : decode cX12_around 5 = .ok (.iload_n 1, 1) := by decide +kernel
theorem dX12_around_6 : decode cX12_around 6 = .ok (.laload, 1) := by decide +kernel
theorem dX12_around_7 : decode cX12_around 7 = .ok (.lmul, 1) := by decide +kernel
theorem dX12_around_8 : decode cX12_around 8 = .ok (.aload_n 0, 1) := by decide +kernel
theorem dX12_around_9 : decode cX12_around 9 = .ok (.getfield 65, 3) := by decide +kernel
theorem dX12_around_12 : decode cX12_around 12 = .ok (.iload_n 1, 1) := by decide +kernel
theorem dX12_around_13 : decode cX12_around 13 = .ok (.iconst 1, 1) := by decide +kernel
theorem dX12_around_14 : decode cX12_around 14 = .ok (.iadd, 1) := by decide +kernel
theorem dX12_around_15 : decode cX12_around 15 = .ok (.bipush 8, 2) := by decide +kernel
theorem dX12_around_17 : decode cX12_around 17 = .ok (.irem, 1) := by decide +kernel
theorem dX12_around_18 : decode cX12_around 18 = .ok (.laload, 1) := by decide +kernel
theorem dX12_around_19 : decode cX12_around 19 = .ok (.ladd, 1) := by decide +kernel
theorem dX12_around_20 : decode cX12_around 20 = .ok (.aload_n 0, 1) := by decide +kernel
theorem dX12_around_21 : decode cX12_around 21 = .ok (.getfield 65, 3) := by decide +kernel
theorem dX12_around_24 : decode cX12_around 24 = .ok (.iload_n 1, 1) := by decide +kernel
theorem dX12_around_25 : decode cX12_around 25 = .ok (.bipush 8, 2) := by decide +kernel
theorem dX12_around_27 : decode cX12_around 27 = .ok (.iadd, 1) := by decide +kernel
theorem dX12_around_28 : decode cX12_around 28 = .ok (.iconst 1, 1) := by decide +kernel
theorem dX12_around_29 : decode cX12_around 29 = .ok (.isub, 1) := by decide +kernel
theorem dX12_around_30 : decode cX12_around 30 = .ok (.bipush 8, 2) := by decide +kernel
theorem dX12_around_32 : decode cX12_around 32 = .ok (.irem, 1) := by decide +kernel
theorem dX12_around_33 : decode cX12_around 33 = .ok (.laload, 1) := by decide +kernel
theorem dX12_around_34 : decode cX12_around 34 = .ok (.ladd, 1) := by decide +kernel
theorem dX12_around_35 : decode cX12_around 35 = .ok (.lreturn, 1) := by decide +kernel
theorem dX12_aimNow_0 : decode cX12_aimNow 0 = .ok (.iconst (-1), 1) := by decide +kernel
theorem dX12_aimNow_1 : decode cX12_aimNow 1 = .ok (.istore_n 1, 1) := by decide +kernel
theorem dX12_aimNow_2 : decode cX12_aimNow 2 = .ok (.iconst 0, 1) := by decide +kernel
theorem dX12_aimNow_3 : decode cX12_aimNow 3 = .ok (.istore_n 2, 1) := by decide +kernel
theorem dX12_aimNow_4 : decode cX12_aimNow 4 = .ok (.iload_n 2, 1) := by decide +kernel
theorem dX12_aimNow_5 : decode cX12_aimNow 5 = .ok (.bipush 8, 2) := by decide +kernel
theorem dX12_aimNow_7 : decode cX12_aimNow 7 = .ok (.if_icmp .ge 49, 3) := by decide +kernel
theorem dX12_aimNow_10 : decode cX12_aimNow 10 = .ok (.aload_n 0, 1) := by decide +kernel
theorem dX12_aimNow_11 : decode cX12_aimNow 11 = .ok (.getfield 433, 3) := by decide +kernel
theorem dX12_aimNow_14 : decode cX12_aimNow 14 = .ok (.lconst 0, 1) := by decide +kernel
theorem dX12_aimNow_15 : decode cX12_aimNow 15 = .ok (.lcmp, 1) := by decide +kernel
theorem dX12_aimNow_16 : decode cX12_aimNow 16 = .ok (.ifCond .le 40, 3) := by decide +kernel
theorem dX12_aimNow_19 : decode cX12_aimNow 19 = .ok (.iload_n 1, 1) := by decide +kernel
theorem dX12_aimNow_20 : decode cX12_aimNow 20 = .ok (.iconst (-1), 1) := by decide +kernel
theorem dX12_aimNow_21 : decode cX12_aimNow 21 = .ok (.if_icmp .eq 23, 3) := by decide +kernel
theorem dX12_aimNow_24 : decode cX12_aimNow 24 = .ok (.aload_n 0, 1) := by decide +kernel
theorem dX12_aimNow_25 : decode cX12_aimNow 25 = .ok (.iload_n 2, 1) := by decide +kernel
theorem dX12_aimNow_26 : decode cX12_aimNow 26 = .ok (.ldc2_w 439, 3) := by decide +kernel
theorem dX12_aimNow_29 : decode cX12_aimNow 29 = .ok (.invokevirtual 441, 3) := by decide +kernel
theorem dX12_aimNow_32 : decode cX12_aimNow 32 = .ok (.aload_n 0, 1) := by decide +kernel
theorem dX12_aimNow_33 : decode cX12_aimNow 33 = .ok (.iload_n 1, 1) := by decide +kernel
theorem dX12_aimNow_34 : decode cX12_aimNow 34 = .ok (.ldc2_w 439, 3) := by decide +kernel
theorem dX12_aimNow_37 : decode cX12_aimNow 37 = .ok (.invokevirtual 441, 3) := by decide +kernel
theorem dX12_aimNow_40 : decode cX12_aimNow 40 = .ok (.lcmp, 1) := by decide +kernel
theorem dX12_aimNow_41 : decode cX12_aimNow 41 = .ok (.ifCond .le 7, 3) := by decide +kernel
theorem dX12_aimNow_44 : decode cX12_aimNow 44 = .ok (.iload_n 2, 1) := by decide +kernel
theorem dX12_aimNow_45 : decode cX12_aimNow 45 = .ok (.goto 4, 3) := by decide +kernel
theorem dX12_aimNow_48 : decode cX12_aimNow 48 = .ok (.iload_n 1, 1) := by decide +kernel
theorem dX12_aimNow_49 : decode cX12_aimNow 49 = .ok (.istore_n 1, 1) := by decide +kernel
theorem dX12_aimNow_50 : decode cX12_aimNow 50 = .ok (.iinc 2 1, 3) := by decide +kernel
theorem dX12_aimNow_53 : decode cX12_aimNow 53 = .ok (.goto (-49), 3) := by decide +kernel
theorem dX12_aimNow_56 : decode cX12_aimNow 56 = .ok (.iload_n 1, 1) := by decide +kernel
theorem dX12_aimNow_57 : decode cX12_aimNow 57 = .ok (.ireturn, 1) := by decide +kernel
theorem dX12_common_0 : decode cX12_common 0 = .ok (.lload_n 0, 1) := by decide +kernel
theorem dX12_common_1 : decode cX12_common 1 = .ok (.lstore 4, 2) := by decide +kernel
theorem dX12_common_3 : decode cX12_common 3 = .ok (.lload_n 2, 1) := by decide +kernel
theorem dX12_common_4 : decode cX12_common 4 = .ok (.lstore 6, 2) := by decide +kernel
theorem dX12_common_6 : decode cX12_common 6 = .ok (.lload 6, 2) := by decide +kernel
theorem dX12_common_8 : decode cX12_common 8 = .ok (.lconst 0, 1) := by decide +kernel
theorem dX12_common_9 : decode cX12_common 9 = .ok (.lcmp, 1) := by decide +kernel
theorem dX12_common_10 : decode cX12_common 10 = .ok (.ifCond .eq 21, 3) := by decide +kernel
theorem dX12_common_13 : decode cX12_common 13 = .ok (.lload 4, 2) := by decide +kernel
theorem dX12_common_15 : decode cX12_common 15 = .ok (.lload 6, 2) := by decide +kernel
theorem dX12_common_17 : decode cX12_common 17 = .ok (.lrem, 1) := by decide +kernel
theorem dX12_common_18 : decode cX12_common 18 = .ok (.lstore 8, 2) := by decide +kernel
theorem dX12_common_20 : decode cX12_common 20 = .ok (.lload 6, 2) := by decide +kernel
theorem dX12_common_22 : decode cX12_common 22 = .ok (.lstore 4, 2) := by decide +kernel
theorem dX12_common_24 : decode cX12_common 24 = .ok (.lload 8, 2) := by decide +kernel
theorem dX12_common_26 : decode cX12_common 26 = .ok (.lstore 6, 2) := by decide +kernel
theorem dX12_common_28 : decode cX12_common 28 = .ok (.goto (-22), 3) := by decide +kernel
theorem dX12_common_31 : decode cX12_common 31 = .ok (.lload 4, 2) := by decide +kernel
theorem dX12_common_33 : decode cX12_common 33 = .ok (.lreturn, 1) := by decide +kernel
theorem dX12_least_0 : decode cX12_least 0 = .ok (.iload 4, 2) := by decide +kernel
theorem dX12_least_2 : decode cX12_least 2 = .ok (.ifCond .eq 7, 3) := by decide +kernel
theorem dX12_least_5 : decode cX12_least 5 = .ok (.lload_n 2, 1) := by decide +kernel
theorem dX12_least_6 : decode cX12_least 6 = .ok (.goto 4, 3) := by decide +kernel
theorem dX12_least_9 : decode cX12_least 9 = .ok (.lload_n 0, 1) := by decide +kernel
theorem dX12_least_10 : decode cX12_least 10 = .ok (.lload_n 0, 1) := by decide +kernel
theorem dX12_least_11 : decode cX12_least 11 = .ok (.lload_n 2, 1) := by decide +kernel
theorem dX12_least_12 : decode cX12_least 12 = .ok (.invokestatic 445, 3) := by decide +kernel
theorem dX12_least_15 : decode cX12_least 15 = .ok (.ldiv, 1) := by decide +kernel
theorem dX12_least_16 : decode cX12_least 16 = .ok (.lreturn, 1) := by decide +kernel
theorem dX12_layClues_0 : decode cX12_layClues 0 = .ok (.aload_n 0, 1) := by decide +kernel
theorem dX12_layClues_1 : decode cX12_layClues 1 = .ok (.iload_n 2, 1) := by decide +kernel
theorem dX12_layClues_2 : decode cX12_layClues 2 = .ok (.invokevirtual 424, 3) := by decide +kernel
theorem dX12_layClues_5 : decode cX12_layClues 5 = .ok (.ifCond .eq 11, 3) := by decide +kernel
theorem dX12_layClues_8 : decode cX12_layClues 8 = .ok (.aload_n 0, 1) := by decide +kernel
theorem dX12_layClues_9 : decode cX12_layClues 9 = .ok (.iload_n 1, 1) := by decide +kernel
theorem dX12_layClues_10 : decode cX12_layClues 10 = .ok (.invokevirtual 328, 3) := by decide +kernel
theorem dX12_layClues_13 : decode cX12_layClues 13 = .ok (.ifCond .ne 5, 3) := by decide +kernel
theorem dX12_layClues_16 : decode cX12_layClues 16 = .ok (.iconst 0, 1) := by decide +kernel
theorem dX12_layClues_17 : decode cX12_layClues 17 = .ok (.ireturn, 1) := by decide +kernel
theorem dX12_layClues_18 : decode cX12_layClues 18 = .ok (.aload_n 0, 1) := by decide +kernel
theorem dX12_layClues_19 : decode cX12_layClues 19 = .ok (.iconst (-1), 1) := by decide +kernel
theorem dX12_layClues_20 : decode cX12_layClues 20 = .ok (.invokevirtual 449, 3) := by decide +kernel
theorem dX12_layClues_23 : decode cX12_layClues 23 = .ok (.iconst 1, 1) := by decide +kernel
theorem dX12_layClues_24 : decode cX12_layClues 24 = .ok (.ireturn, 1) := by decide +kernel
theorem dX12_hangs_0 : decode cX12_hangs 0 = .ok (.aload_n 0, 1) := by decide +kernel
theorem dX12_hangs_1 : decode cX12_hangs 1 = .ok (.iconst 0, 1) := by decide +kernel
theorem dX12_hangs_2 : decode cX12_hangs 2 = .ok (.putfield 97, 3) := by decide +kernel
theorem dX12_hangs_5 : decode cX12_hangs 5 = .ok (.aload_n 0, 1) := by decide +kernel
theorem dX12_hangs_6 : decode cX12_hangs 6 = .ok (.iload_n 1, 1) := by decide +kernel
theorem dX12_hangs_7 : decode cX12_hangs 7 = .ok (.iload_n 2, 1) := by decide +kernel
theorem dX12_hangs_8 : decode cX12_hangs 8 = .ok (.invokevirtual 452, 3) := by decide +kernel
theorem dX12_hangs_11 : decode cX12_hangs 11 = .ok (.ifCond .eq 40, 3) := by decide +kernel
theorem dX12_hangs_14 : decode cX12_hangs 14 = .ok (.iload_n 3, 1) := by decide +kernel
theorem dX12_hangs_15 : decode cX12_hangs 15 = .ok (.iconst 0, 1) := by decide +kernel
theorem dX12_hangs_16 : decode cX12_hangs 16 = .ok (.bipush 7, 2) := by decide +kernel
theorem dX12_hangs_18 : decode cX12_hangs 18 = .ok (.invokestatic 105, 3) := by decide +kernel
theorem dX12_hangs_21 : decode cX12_hangs 21 = .ok (.ifCond .eq 30, 3) := by decide +kernel
theorem dX12_hangs_24 : decode cX12_hangs 24 = .ok (.aload_n 0, 1) := by decide +kernel
theorem dX12_hangs_25 : decode cX12_hangs 25 = .ok (.getfield 433, 3) := by decide +kernel
theorem dX12_hangs_28 : decode cX12_hangs 28 = .ok (.lconst 0, 1) := by decide +kernel
theorem dX12_hangs_29 : decode cX12_hangs 29 = .ok (.lcmp, 1) := by decide +kernel
theorem dX12_hangs_30 : decode cX12_hangs 30 = .ok (.ifCond .le 21, 3) := by decide +kernel
theorem dX12_hangs_33 : decode cX12_hangs 33 = .ok (.aload_n 0, 1) := by decide +kernel
theorem dX12_hangs_34 : decode cX12_hangs 34 = .ok (.getfield 65, 3) := by decide +kernel
theorem dX12_hangs_37 : decode cX12_hangs 37 = .ok (.iload_n 3, 1) := by decide +kernel
theorem dX12_hangs_38 : decode cX12_hangs 38 = .ok (.laload, 1) := by decide +kernel
theorem dX12_hangs_39 : decode cX12_hangs 39 = .ok (.aload_n 0, 1) := by decide +kernel
theorem dX12_hangs_40 : decode cX12_hangs 40 = .ok (.getfield 433, 3) := by decide +kernel
theorem dX12_hangs_43 : decode cX12_hangs 43 = .ok (.iload 4, 2) := by decide +kernel
theorem dX12_hangs_45 : decode cX12_hangs 45 = .ok (.invokestatic 455, 3) := by decide +kernel
theorem dX12_hangs_48 : decode cX12_hangs 48 = .ok (.goto 6, 3) := by decide +kernel
theorem dX12_hangs_51 : decode cX12_hangs 51 = .ok (.ldc2_w 459, 3) := by decide +kernel
theorem dX12_hangs_54 : decode cX12_hangs 54 = .ok (.lreturn, 1) := by decide +kernel
theorem dX12_aim_0 : decode cX12_aim 0 = .ok (.aload_n 0, 1) := by decide +kernel
theorem dX12_aim_1 : decode cX12_aim 1 = .ok (.iconst 0, 1) := by decide +kernel
theorem dX12_aim_2 : decode cX12_aim 2 = .ok (.putfield 97, 3) := by decide +kernel
theorem dX12_aim_5 : decode cX12_aim 5 = .ok (.iload_n 3, 1) := by decide +kernel
theorem dX12_aim_6 : decode cX12_aim 6 = .ok (.iconst 0, 1) := by decide +kernel
theorem dX12_aim_7 : decode cX12_aim 7 = .ok (.iconst 2, 1) := by decide +kernel
theorem dX12_aim_8 : decode cX12_aim 8 = .ok (.invokestatic 105, 3) := by decide +kernel
theorem dX12_aim_11 : decode cX12_aim 11 = .ok (.ifCond .eq 12, 3) := by decide +kernel
theorem dX12_aim_14 : decode cX12_aim 14 = .ok (.aload_n 0, 1) := by decide +kernel
theorem dX12_aim_15 : decode cX12_aim 15 = .ok (.iload_n 1, 1) := by decide +kernel
theorem dX12_aim_16 : decode cX12_aim 16 = .ok (.iload_n 2, 1) := by decide +kernel
theorem dX12_aim_17 : decode cX12_aim 17 = .ok (.invokevirtual 452, 3) := by decide +kernel
theorem dX12_aim_20 : decode cX12_aim 20 = .ok (.ifCond .ne 6, 3) := by decide +kernel
theorem dX12_aim_23 : decode cX12_aim 23 = .ok (.bipush (-2), 2) := by decide +kernel
theorem dX12_aim_25 : decode cX12_aim 25 = .ok (.ireturn, 1) := by decide +kernel
theorem dX12_aim_26 : decode cX12_aim 26 = .ok (.aload_n 0, 1) := by decide +kernel
theorem dX12_aim_27 : decode cX12_aim 27 = .ok (.invokevirtual 461, 3) := by decide +kernel
theorem dX12_aim_30 : decode cX12_aim 30 = .ok (.istore 4, 2) := by decide +kernel
theorem dX12_aim_32 : decode cX12_aim 32 = .ok (.iload_n 3, 1) := by decide +kernel
theorem dX12_aim_33 : decode cX12_aim 33 = .ok (.ifCond .ne 6, 3) := by decide +kernel
theorem dX12_aim_36 : decode cX12_aim 36 = .ok (.iload 4, 2) := by decide +kernel
theorem dX12_aim_38 : decode cX12_aim 38 = .ok (.ireturn, 1) := by decide +kernel
theorem dX12_aim_39 : decode cX12_aim 39 = .ok (.iconst 0, 1) := by decide +kernel
theorem dX12_aim_40 : decode cX12_aim 40 = .ok (.istore 5, 2) := by decide +kernel
theorem dX12_aim_42 : decode cX12_aim 42 = .ok (.iconst 0, 1) := by decide +kernel
theorem dX12_aim_43 : decode cX12_aim 43 = .ok (.istore 6, 2) := by decide +kernel
theorem dX12_aim_45 : decode cX12_aim 45 = .ok (.iload 6, 2) := by decide +kernel
theorem dX12_aim_47 : decode cX12_aim 47 = .ok (.aload_n 0, 1) := by decide +kernel
theorem dX12_aim_48 : decode cX12_aim 48 = .ok (.invokevirtual 427, 3) := by decide +kernel
theorem dX12_aim_51 : decode cX12_aim 51 = .ok (.if_icmp .ge 83, 3) := by decide +kernel
theorem dX12_aim_54 : decode cX12_aim 54 = .ok (.aload_n 0, 1) := by decide +kernel
theorem dX12_aim_55 : decode cX12_aim 55 = .ok (.iload 6, 2) := by decide +kernel
theorem dX12_aim_57 : decode cX12_aim 57 = .ok (.invokevirtual 449, 3) := by decide +kernel
theorem dX12_aim_60 : decode cX12_aim 60 = .ok (.iload_n 3, 1) := by decide +kernel
theorem dX12_aim_61 : decode cX12_aim 61 = .ok (.iconst 1, 1) := by decide +kernel
theorem dX12_aim_62 : decode cX12_aim 62 = .ok (.if_icmp .ne 26, 3) := by decide +kernel
theorem dX12_aim_65 : decode cX12_aim 65 = .ok (.iload 4, 2) := by decide +kernel
theorem dX12_aim_67 : decode cX12_aim 67 = .ok (.iconst (-1), 1) := by decide +kernel
theorem dX12_aim_68 : decode cX12_aim 68 = .ok (.if_icmp .eq 16, 3) := by decide +kernel
theorem dX12_aim_71 : decode cX12_aim 71 = .ok (.aload_n 0, 1) := by decide +kernel
theorem dX12_aim_72 : decode cX12_aim 72 = .ok (.invokevirtual 461, 3) := by decide +kernel
theorem dX12_aim_75 : decode cX12_aim 75 = .ok (.iload 4, 2) := by decide +kernel
theorem dX12_aim_77 : decode cX12_aim 77 = .ok (.if_icmp .eq 7, 3) := by decide +kernel
theorem dX12_aim_80 : decode cX12_aim 80 = .ok (.iconst 1, 1) := by decide +kernel
theorem dX12_aim_81 : decode cX12_aim 81 = .ok (.goto 27, 3) := by decide +kernel
theorem dX12_aim_84 : decode cX12_aim 84 = .ok (.iconst 0, 1) := by decide +kernel
theorem dX12_aim_85 : decode cX12_aim 85 = .ok (.goto 23, 3) := by decide +kernel
theorem dX12_aim_88 : decode cX12_aim 88 = .ok (.iload 4, 2) := by decide +kernel
theorem dX12_aim_90 : decode cX12_aim 90 = .ok (.iconst (-1), 1) := by decide +kernel
theorem dX12_aim_91 : decode cX12_aim 91 = .ok (.if_icmp .ne 16, 3) := by decide +kernel
theorem dX12_aim_94 : decode cX12_aim 94 = .ok (.aload_n 0, 1) := by decide +kernel
theorem dX12_aim_95 : decode cX12_aim 95 = .ok (.getfield 433, 3) := by decide +kernel
theorem dX12_aim_98 : decode cX12_aim 98 = .ok (.lconst 0, 1) := by decide +kernel
theorem dX12_aim_99 : decode cX12_aim 99 = .ok (.lcmp, 1) := by decide +kernel
theorem dX12_aim_100 : decode cX12_aim 100 = .ok (.ifCond .le 7, 3) := by decide +kernel
theorem dX12_aim_103 : decode cX12_aim 103 = .ok (.iconst 1, 1) := by decide +kernel
theorem dX12_aim_104 : decode cX12_aim 104 = .ok (.goto 4, 3) := by decide +kernel
theorem dX12_aim_107 : decode cX12_aim 107 = .ok (.iconst 0, 1) := by decide +kernel
theorem dX12_aim_108 : decode cX12_aim 108 = .ok (.istore 7, 2) := by decide +kernel
theorem dX12_aim_110 : decode cX12_aim 110 = .ok (.iload 5, 2) := by decide +kernel
theorem dX12_aim_112 : decode cX12_aim 112 = .ok (.iload 7, 2) := by decide +kernel
theorem dX12_aim_114 : decode cX12_aim 114 = .ok (.ifCond .eq 10, 3) := by decide +kernel
theorem dX12_aim_117 : decode cX12_aim 117 = .ok (.iconst 1, 1) := by decide +kernel
theorem dX12_aim_118 : decode cX12_aim 118 = .ok (.iload 6, 2) := by decide +kernel
theorem dX12_aim_120 : decode cX12_aim 120 = .ok (.ishl, 1) := by decide +kernel
theorem dX12_aim_121 : decode cX12_aim 121 = .ok (.goto 4, 3) := by decide +kernel
theorem dX12_aim_124 : decode cX12_aim 124 = .ok (.iconst 0, 1) := by decide +kernel
theorem dX12_aim_125 : decode cX12_aim 125 = .ok (.ior, 1) := by decide +kernel
theorem dX12_aim_126 : decode cX12_aim 126 = .ok (.istore 5, 2) := by decide +kernel
theorem dX12_aim_128 : decode cX12_aim 128 = .ok (.iinc 6 1, 3) := by decide +kernel
theorem dX12_aim_131 : decode cX12_aim 131 = .ok (.goto (-86), 3) := by decide +kernel
theorem dX12_aim_134 : decode cX12_aim 134 = .ok (.iload 5, 2) := by decide +kernel
theorem dX12_aim_136 : decode cX12_aim 136 = .ok (.ireturn, 1) := by decide +kernel
theorem dX12_luck_0 : decode cX12_luck 0 = .ok (.aload_n 0, 1) := by decide +kernel
theorem dX12_luck_1 : decode cX12_luck 1 = .ok (.iconst 0, 1) := by decide +kernel
theorem dX12_luck_2 : decode cX12_luck 2 = .ok (.putfield 97, 3) := by decide +kernel
theorem dX12_luck_5 : decode cX12_luck 5 = .ok (.aload_n 0, 1) := by decide +kernel
theorem dX12_luck_6 : decode cX12_luck 6 = .ok (.iload_n 1, 1) := by decide +kernel
theorem dX12_luck_7 : decode cX12_luck 7 = .ok (.iload_n 2, 1) := by decide +kernel
theorem dX12_luck_8 : decode cX12_luck 8 = .ok (.invokevirtual 452, 3) := by decide +kernel
theorem dX12_luck_11 : decode cX12_luck 11 = .ok (.ifCond .eq 40, 3) := by decide +kernel
theorem dX12_luck_14 : decode cX12_luck 14 = .ok (.iload_n 3, 1) := by decide +kernel
theorem dX12_luck_15 : decode cX12_luck 15 = .ok (.iconst 0, 1) := by decide +kernel
theorem dX12_luck_16 : decode cX12_luck 16 = .ok (.bipush 7, 2) := by decide +kernel
theorem dX12_luck_18 : decode cX12_luck 18 = .ok (.invokestatic 105, 3) := by decide +kernel
theorem dX12_luck_21 : decode cX12_luck 21 = .ok (.ifCond .eq 30, 3) := by decide +kernel
theorem dX12_luck_24 : decode cX12_luck 24 = .ok (.aload_n 0, 1) := by decide +kernel
theorem dX12_luck_25 : decode cX12_luck 25 = .ok (.getfield 433, 3) := by decide +kernel
theorem dX12_luck_28 : decode cX12_luck 28 = .ok (.lconst 0, 1) := by decide +kernel
theorem dX12_luck_29 : decode cX12_luck 29 = .ok (.lcmp, 1) := by decide +kernel
theorem dX12_luck_30 : decode cX12_luck 30 = .ok (.ifCond .le 21, 3) := by decide +kernel
theorem dX12_luck_33 : decode cX12_luck 33 = .ok (.aload_n 0, 1) := by decide +kernel
theorem dX12_luck_34 : decode cX12_luck 34 = .ok (.iload_n 3, 1) := by decide +kernel
theorem dX12_luck_35 : decode cX12_luck 35 = .ok (.lconst 1, 1) := by decide +kernel
theorem dX12_luck_36 : decode cX12_luck 36 = .ok (.invokevirtual 441, 3) := by decide +kernel
theorem dX12_luck_39 : decode cX12_luck 39 = .ok (.aload_n 0, 1) := by decide +kernel
theorem dX12_luck_40 : decode cX12_luck 40 = .ok (.getfield 433, 3) := by decide +kernel
theorem dX12_luck_43 : decode cX12_luck 43 = .ok (.iload 4, 2) := by decide +kernel
theorem dX12_luck_45 : decode cX12_luck 45 = .ok (.invokestatic 455, 3) := by decide +kernel
theorem dX12_luck_48 : decode cX12_luck 48 = .ok (.goto 6, 3) := by decide +kernel
theorem dX12_luck_51 : decode cX12_luck 51 = .ok (.ldc2_w 459, 3) := by decide +kernel
theorem dX12_luck_54 : decode cX12_luck 54 = .ok (.lreturn, 1) := by decide +kernel
theorem dX12_canTell_0 : decode cX12_canTell 0 = .ok (.aload_n 0, 1) := by decide +kernel
theorem dX12_canTell_1 : decode cX12_canTell 1 = .ok (.getfield 319, 3) := by decide +kernel
theorem dX12_canTell_4 : decode cX12_canTell 4 = .ok (.aload_n 0, 1) := by decide +kernel
theorem dX12_canTell_5 : decode cX12_canTell 5 = .ok (.getfield 322, 3) := by decide +kernel
theorem dX12_canTell_8 : decode cX12_canTell 8 = .ok (.imul, 1) := by decide +kernel
theorem dX12_canTell_9 : decode cX12_canTell 9 = .ok (.bipush 15, 2) := by decide +kernel
theorem dX12_canTell_11 : decode cX12_canTell 11 = .ok (.if_icmp .gt 7, 3) := by decide +kernel
theorem dX12_canTell_14 : decode cX12_canTell 14 = .ok (.iconst 1, 1) := by decide +kernel
theorem dX12_canTell_15 : decode cX12_canTell 15 = .ok (.goto 4, 3) := by decide +kernel
theorem dX12_canTell_18 : decode cX12_canTell 18 = .ok (.iconst 0, 1) := by decide +kernel
theorem dX12_canTell_19 : decode cX12_canTell 19 = .ok (.ireturn, 1) := by decide +kernel
theorem dX12_plain_0 : decode cX12_plain 0 = .ok (.iconst 0, 1) := by decide +kernel
theorem dX12_plain_1 : decode cX12_plain 1 = .ok (.istore_n 1, 1) := by decide +kernel
theorem dX12_plain_2 : decode cX12_plain 2 = .ok (.iload_n 1, 1) := by decide +kernel
theorem dX12_plain_3 : decode cX12_plain 3 = .ok (.bipush 8, 2) := by decide +kernel
theorem dX12_plain_5 : decode cX12_plain 5 = .ok (.if_icmp .ge 16, 3) := by decide +kernel
theorem dX12_plain_8 : decode cX12_plain 8 = .ok (.aload_n 0, 1) := by decide +kernel
theorem dX12_plain_9 : decode cX12_plain 9 = .ok (.getfield 78, 3) := by decide +kernel
theorem dX12_plain_12 : decode cX12_plain 12 = .ok (.iload_n 1, 1) := by decide +kernel
theorem dX12_plain_13 : decode cX12_plain 13 = .ok (.iload_n 1, 1) := by decide +kernel
theorem dX12_plain_14 : decode cX12_plain 14 = .ok (.iastore, 1) := by decide +kernel
theorem dX12_plain_15 : decode cX12_plain 15 = .ok (.iinc 1 1, 3) := by decide +kernel
theorem dX12_plain_18 : decode cX12_plain 18 = .ok (.goto (-16), 3) := by decide +kernel
theorem dX12_plain_21 : decode cX12_plain 21 = .ok (.return_, 1) := by decide +kernel
theorem dX12_layOrder_0 : decode cX12_layOrder 0 = .ok (.aload_n 0, 1) := by decide +kernel
theorem dX12_layOrder_1 : decode cX12_layOrder 1 = .ok (.invokevirtual 464, 3) := by decide +kernel
theorem dX12_layOrder_4 : decode cX12_layOrder 4 = .ok (.iload_n 1, 1) := by decide +kernel
theorem dX12_layOrder_5 : decode cX12_layOrder 5 = .ok (.iconst (-1), 1) := by decide +kernel
theorem dX12_layOrder_6 : decode cX12_layOrder 6 = .ok (.if_icmp .ne 5, 3) := by decide +kernel
theorem dX12_layOrder_9 : decode cX12_layOrder 9 = .ok (.iconst 1, 1) := by decide +kernel
theorem dX12_layOrder_10 : decode cX12_layOrder 10 = .ok (.ireturn, 1) := by decide +kernel
theorem dX12_layOrder_11 : decode cX12_layOrder 11 = .ok (.iload_n 1, 1) := by decide +kernel
theorem dX12_layOrder_12 : decode cX12_layOrder 12 = .ok (.istore_n 2, 1) := by decide +kernel
theorem dX12_layOrder_13 : decode cX12_layOrder 13 = .ok (.iconst 0, 1) := by decide +kernel
theorem dX12_layOrder_14 : decode cX12_layOrder 14 = .ok (.istore_n 3, 1) := by decide +kernel
theorem dX12_layOrder_15 : decode cX12_layOrder 15 = .ok (.aload_n 0, 1) := by decide +kernel
theorem dX12_layOrder_16 : decode cX12_layOrder 16 = .ok (.getfield 319, 3) := by decide +kernel
theorem dX12_layOrder_19 : decode cX12_layOrder 19 = .ok (.iconst 1, 1) := by decide +kernel
theorem dX12_layOrder_20 : decode cX12_layOrder 20 = .ok (.isub, 1) := by decide +kernel
theorem dX12_layOrder_21 : decode cX12_layOrder 21 = .ok (.istore 4, 2) := by decide +kernel
theorem dX12_layOrder_23 : decode cX12_layOrder 23 = .ok (.iload 4, 2) := by decide +kernel
theorem dX12_layOrder_25 : decode cX12_layOrder 25 = .ok (.ifCond .lt 33, 3) := by decide +kernel
theorem dX12_layOrder_28 : decode cX12_layOrder 28 = .ok (.aload_n 0, 1) := by decide +kernel
theorem dX12_layOrder_29 : decode cX12_layOrder 29 = .ok (.getfield 78, 3) := by decide +kernel
theorem dX12_layOrder_32 : decode cX12_layOrder 32 = .ok (.iload 4, 2) := by decide +kernel
theorem dX12_layOrder_34 : decode cX12_layOrder 34 = .ok (.iload_n 2, 1) := by decide +kernel
theorem dX12_layOrder_35 : decode cX12_layOrder 35 = .ok (.bipush 7, 2) := by decide +kernel
theorem dX12_layOrder_37 : decode cX12_layOrder 37 = .ok (.iand, 1) := by decide +kernel
theorem dX12_layOrder_38 : decode cX12_layOrder 38 = .ok (.iastore, 1) := by decide +kernel
theorem dX12_layOrder_39 : decode cX12_layOrder 39 = .ok (.iload_n 3, 1) := by decide +kernel
theorem dX12_layOrder_40 : decode cX12_layOrder 40 = .ok (.iconst 1, 1) := by decide +kernel
theorem dX12_layOrder_41 : decode cX12_layOrder 41 = .ok (.iload_n 2, 1) := by decide +kernel
theorem dX12_layOrder_42 : decode cX12_layOrder 42 = .ok (.bipush 7, 2) := by decide +kernel
theorem dX12_layOrder_44 : decode cX12_layOrder 44 = .ok (.iand, 1) := by decide +kernel
theorem dX12_layOrder_45 : decode cX12_layOrder 45 = .ok (.ishl, 1) := by decide +kernel
theorem dX12_layOrder_46 : decode cX12_layOrder 46 = .ok (.ior, 1) := by decide +kernel
theorem dX12_layOrder_47 : decode cX12_layOrder 47 = .ok (.istore_n 3, 1) := by decide +kernel
theorem dX12_layOrder_48 : decode cX12_layOrder 48 = .ok (.iload_n 2, 1) := by decide +kernel
theorem dX12_layOrder_49 : decode cX12_layOrder 49 = .ok (.iconst 3, 1) := by decide +kernel
theorem dX12_layOrder_50 : decode cX12_layOrder 50 = .ok (.ishr, 1) := by decide +kernel
theorem dX12_layOrder_51 : decode cX12_layOrder 51 = .ok (.istore_n 2, 1) := by decide +kernel
theorem dX12_layOrder_52 : decode cX12_layOrder 52 = .ok (.iinc 4 (-1), 3) := by decide +kernel
theorem dX12_layOrder_55 : decode cX12_layOrder 55 = .ok (.goto (-32), 3) := by decide +kernel
theorem dX12_layOrder_58 : decode cX12_layOrder 58 = .ok (.iload_n 1, 1) := by decide +kernel
theorem dX12_layOrder_59 : decode cX12_layOrder 59 = .ok (.ifCond .lt 23, 3) := by decide +kernel
theorem dX12_layOrder_62 : decode cX12_layOrder 62 = .ok (.iload_n 2, 1) := by decide +kernel
theorem dX12_layOrder_63 : decode cX12_layOrder 63 = .ok (.ifCond .ne 19, 3) := by decide +kernel
theorem dX12_layOrder_66 : decode cX12_layOrder 66 = .ok (.iload_n 3, 1) := by decide +kernel
theorem dX12_layOrder_67 : decode cX12_layOrder 67 = .ok (.iconst 1, 1) := by decide +kernel
theorem dX12_layOrder_68 : decode cX12_layOrder 68 = .ok (.aload_n 0, 1) := by decide +kernel
theorem dX12_layOrder_69 : decode cX12_layOrder 69 = .ok (.getfield 319, 3) := by decide +kernel
theorem dX12_layOrder_72 : decode cX12_layOrder 72 = .ok (.ishl, 1) := by decide +kernel
theorem dX12_layOrder_73 : decode cX12_layOrder 73 = .ok (.iconst 1, 1) := by decide +kernel
theorem dX12_layOrder_74 : decode cX12_layOrder 74 = .ok (.isub, 1) := by decide +kernel
theorem dX12_layOrder_75 : decode cX12_layOrder 75 = .ok (.if_icmp .ne 7, 3) := by decide +kernel
theorem dX12_layOrder_78 : decode cX12_layOrder 78 = .ok (.iconst 1, 1) := by decide +kernel
theorem dX12_layOrder_79 : decode cX12_layOrder 79 = .ok (.goto 4, 3) := by decide +kernel
theorem dX12_layOrder_82 : decode cX12_layOrder 82 = .ok (.iconst 0, 1) := by decide +kernel
theorem dX12_layOrder_83 : decode cX12_layOrder 83 = .ok (.ireturn, 1) := by decide +kernel
theorem dX12_blow_0 : decode cX12_blow 0 = .ok (.aload_n 0, 1) := by decide +kernel
theorem dX12_blow_1 : decode cX12_blow 1 = .ok (.iload_n 1, 1) := by decide +kernel
theorem dX12_blow_2 : decode cX12_blow 2 = .ok (.iconst 2, 1) := by decide +kernel
theorem dX12_blow_3 : decode cX12_blow 3 = .ok (.invokevirtual 334, 3) := by decide +kernel
theorem dX12_blow_6 : decode cX12_blow 6 = .ok (.istore_n 3, 1) := by decide +kernel
theorem dX12_blow_7 : decode cX12_blow 7 = .ok (.aload_n 0, 1) := by decide +kernel
theorem dX12_blow_8 : decode cX12_blow 8 = .ok (.iload_n 1, 1) := by decide +kernel
theorem dX12_blow_9 : decode cX12_blow 9 = .ok (.iconst 1, 1) := by decide +kernel
theorem dX12_blow_10 : decode cX12_blow 10 = .ok (.invokevirtual 334, 3) := by decide +kernel
theorem dX12_blow_13 : decode cX12_blow 13 = .ok (.istore 4, 2) := by decide +kernel
theorem dX12_blow_15 : decode cX12_blow 15 = .ok (.aload_n 0, 1) := by decide +kernel
theorem dX12_blow_16 : decode cX12_blow 16 = .ok (.iload_n 1, 1) := by decide +kernel
theorem dX12_blow_17 : decode cX12_blow 17 = .ok (.iconst 0, 1) := by decide +kernel
theorem dX12_blow_18 : decode cX12_blow 18 = .ok (.invokevirtual 334, 3) := by decide +kernel
theorem dX12_blow_21 : decode cX12_blow 21 = .ok (.aload_n 0, 1) := by decide +kernel
theorem dX12_blow_22 : decode cX12_blow 22 = .ok (.getfield 325, 3) := by decide +kernel
theorem dX12_blow_25 : decode cX12_blow 25 = .ok (.if_icmp .lt 7, 3) := by decide +kernel
theorem dX12_blow_28 : decode cX12_blow 28 = .ok (.iconst 1, 1) := by decide +kernel
theorem dX12_blow_29 : decode cX12_blow 29 = .ok (.goto 4, 3) := by decide +kernel
theorem dX12_blow_32 : decode cX12_blow 32 = .ok (.iconst 0, 1) := by decide +kernel
theorem dX12_blow_33 : decode cX12_blow 33 = .ok (.istore 5, 2) := by decide +kernel
theorem dX12_blow_35 : decode cX12_blow 35 = .ok (.lconst 0, 1) := by decide +kernel
theorem dX12_blow_36 : decode cX12_blow 36 = .ok (.lstore 6, 2) := by decide +kernel
theorem dX12_blow_38 : decode cX12_blow 38 = .ok (.iconst 0, 1) := by decide +kernel
theorem dX12_blow_39 : decode cX12_blow 39 = .ok (.istore 8, 2) := by decide +kernel
theorem dX12_blow_41 : decode cX12_blow 41 = .ok (.iload 8, 2) := by decide +kernel
theorem dX12_blow_43 : decode cX12_blow 43 = .ok (.sipush 542, 3) := by decide +kernel
theorem dX12_blow_46 : decode cX12_blow 46 = .ok (.if_icmp .ge 17, 3) := by decide +kernel
theorem dX12_blow_49 : decode cX12_blow 49 = .ok (.aload_n 0, 1) := by decide +kernel
theorem dX12_blow_50 : decode cX12_blow 50 = .ok (.getfield 72, 3) := by decide +kernel
theorem dX12_blow_53 : decode cX12_blow 53 = .ok (.iload 8, 2) := by decide +kernel
theorem dX12_blow_55 : decode cX12_blow 55 = .ok (.lconst 0, 1) := by decide +kernel
theorem dX12_blow_56 : decode cX12_blow 56 = .ok (.lastore, 1) := by decide +kernel
theorem dX12_blow_57 : decode cX12_blow 57 = .ok (.iinc 8 1, 3) := by decide +kernel
theorem dX12_blow_60 : decode cX12_blow 60 = .ok (.goto (-19), 3) := by decide +kernel
theorem dX12_blow_63 : decode cX12_blow 63 = .ok (.iconst 1, 1) := by decide +kernel
theorem dX12_blow_64 : decode cX12_blow 64 = .ok (.istore 8, 2) := by decide +kernel
theorem dX12_blow_66 : decode cX12_blow 66 = .ok (.iload 8, 2) := by decide +kernel
theorem dX12_blow_68 : decode cX12_blow 68 = .ok (.iload_n 2, 1) := by decide +kernel
theorem dX12_blow_69 : decode cX12_blow 69 = .ok (.if_icmp .gt 142, 3) := by decide +kernel
theorem dX12_blow_72 : decode cX12_blow 72 = .ok (.iconst 0, 1) := by decide +kernel
theorem dX12_blow_73 : decode cX12_blow 73 = .ok (.istore 9, 2) := by decide +kernel
theorem dX12_blow_75 : decode cX12_blow 75 = .ok (.iload 9, 2) := by decide +kernel
theorem dX12_blow_77 : decode cX12_blow 77 = .ok (.iconst 2, 1) := by decide +kernel
theorem dX12_blow_78 : decode cX12_blow 78 = .ok (.if_icmp .ge 127, 3) := by decide +kernel
theorem dX12_blow_81 : decode cX12_blow 81 = .ok (.aload_n 0, 1) := by decide +kernel
theorem dX12_blow_82 : decode cX12_blow 82 = .ok (.getfield 69, 3) := by decide +kernel
theorem dX12_blow_85 : decode cX12_blow 85 = .ok (.sipush 271, 3) := by decide +kernel
theorem dX12_blow_88 : decode cX12_blow 88 = .ok (.iload 9, 2) := by decide +kernel
theorem dX12_blow_90 : decode cX12_blow 90 = .ok (.imul, 1) := by decide +kernel
theorem dX12_blow_91 : decode cX12_blow 91 = .ok (.iload 8, 2) := by decide +kernel
theorem dX12_blow_93 : decode cX12_blow 93 = .ok (.iadd, 1) := by decide +kernel
theorem dX12_blow_94 : decode cX12_blow 94 = .ok (.laload, 1) := by decide +kernel
theorem dX12_blow_95 : decode cX12_blow 95 = .ok (.lstore 10, 2) := by decide +kernel
theorem dX12_blow_97 : decode cX12_blow 97 = .ok (.aload_n 0, 1) := by decide +kernel
theorem dX12_blow_98 : decode cX12_blow 98 = .ok (.getfield 72, 3) := by decide +kernel
theorem dX12_blow_101 : decode cX12_blow 101 = .ok (.sipush 271, 3) := by decide +kernel
theorem dX12_blow_104 : decode cX12_blow 104 = .ok (.iload 9, 2) := by decide +kernel
theorem dX12_blow_106 : decode cX12_blow 106 = .ok (.imul, 1) := by decide +kernel
theorem dX12_blow_107 : decode cX12_blow 107 = .ok (.iload 8, 2) := by decide +kernel
theorem dX12_blow_109 : decode cX12_blow 109 = .ok (.iadd, 1) := by decide +kernel
theorem dX12_blow_110 : decode cX12_blow 110 = .ok (.dup2, 1) := by decide +kernel
theorem dX12_blow_111 : decode cX12_blow 111 = .ok (.laload, 1) := by decide +kernel
theorem dX12_blow_112 : decode cX12_blow 112 = .ok (.lload 10, 2) := by decide +kernel
theorem dX12_blow_114 : decode cX12_blow 114 = .ok (.bipush 10, 2) := by decide +kernel
theorem dX12_blow_116 : decode cX12_blow 116 = .ok (.iload_n 3, 1) := by decide +kernel
theorem dX12_blow_117 : decode cX12_blow 117 = .ok (.isub, 1) := by decide +kernel
theorem dX12_blow_118 : decode cX12_blow 118 = .ok (.i2l, 1) := by decide +kernel
theorem dX12_blow_119 : decode cX12_blow 119 = .ok (.lmul, 1) := by decide +kernel
theorem dX12_blow_120 : decode cX12_blow 120 = .ok (.ladd, 1) := by decide +kernel
theorem dX12_blow_121 : decode cX12_blow 121 = .ok (.lastore, 1) := by decide +kernel
theorem dX12_blow_122 : decode cX12_blow 122 = .ok (.iload 5, 2) := by decide +kernel
theorem dX12_blow_124 : decode cX12_blow 124 = .ok (.ifCond .eq 30, 3) := by decide +kernel
theorem dX12_blow_127 : decode cX12_blow 127 = .ok (.iload 9, 2) := by decide +kernel
theorem dX12_blow_129 : decode cX12_blow 129 = .ok (.ifCond .ne 25, 3) := by decide +kernel
theorem dX12_blow_132 : decode cX12_blow 132 = .ok (.aload_n 0, 1) := by decide +kernel
theorem dX12_blow_133 : decode cX12_blow 133 = .ok (.getfield 72, 3) := by decide +kernel
theorem dX12_blow_136 : decode cX12_blow 136 = .ok (.sipush 271, 3) := by decide +kernel
theorem dX12_blow_139 : decode cX12_blow 139 = .ok (.iload 8, 2) := by decide +kernel
theorem dX12_blow_141 : decode cX12_blow 141 = .ok (.iadd, 1) := by decide +kernel
theorem dX12_blow_142 : decode cX12_blow 142 = .ok (.dup2, 1) := by decide +kernel
theorem dX12_blow_143 : decode cX12_blow 143 = .ok (.laload, 1) := by decide +kernel
theorem dX12_blow_144 : decode cX12_blow 144 = .ok (.lload 10, 2) := by decide +kernel
theorem dX12_blow_146 : decode cX12_blow 146 = .ok (.iload_n 3, 1) := by decide +kernel
theorem dX12_blow_147 : decode cX12_blow 147 = .ok (.i2l, 1) := by decide +kernel
theorem dX12_blow_148 : decode cX12_blow 148 = .ok (.lmul, 1) := by decide +kernel
theorem dX12_blow_149 : decode cX12_blow 149 = .ok (.ladd, 1) := by decide +kernel
theorem dX12_blow_150 : decode cX12_blow 150 = .ok (.lastore, 1) := by decide +kernel
theorem dX12_blow_151 : decode cX12_blow 151 = .ok (.goto 48, 3) := by decide +kernel
theorem dX12_blow_154 : decode cX12_blow 154 = .ok (.iload 4, 2) := by decide +kernel
theorem dX12_blow_156 : decode cX12_blow 156 = .ok (.iload 8, 2) := by decide +kernel
theorem dX12_blow_158 : decode cX12_blow 158 = .ok (.if_icmp .lt 16, 3) := by decide +kernel
theorem dX12_blow_161 : decode cX12_blow 161 = .ok (.lload 6, 2) := by decide +kernel
theorem dX12_blow_163 : decode cX12_blow 163 = .ok (.lload 10, 2) := by decide +kernel
theorem dX12_blow_165 : decode cX12_blow 165 = .ok (.iload_n 3, 1) := by decide +kernel
theorem dX12_blow_166 : decode cX12_blow 166 = .ok (.i2l, 1) := by decide +kernel
theorem dX12_blow_167 : decode cX12_blow 167 = .ok (.lmul, 1) := by decide +kernel
theorem dX12_blow_168 : decode cX12_blow 168 = .ok (.ladd, 1) := by decide +kernel
theorem dX12_blow_169 : decode cX12_blow 169 = .ok (.lstore 6, 2) := by decide +kernel
theorem dX12_blow_171 : decode cX12_blow 171 = .ok (.goto 28, 3) := by decide +kernel
theorem dX12_blow_174 : decode cX12_blow 174 = .ok (.aload_n 0, 1) := by decide +kernel
theorem dX12_blow_175 : decode cX12_blow 175 = .ok (.getfield 72, 3) := by decide +kernel
theorem dX12_blow_178 : decode cX12_blow 178 = .ok (.sipush 271, 3) := by decide +kernel
theorem dX12_blow_181 : decode cX12_blow 181 = .ok (.iload 9, 2) := by decide +kernel
theorem dX12_blow_183 : decode cX12_blow 183 = .ok (.imul, 1) := by decide +kernel
theorem dX12_blow_184 : decode cX12_blow 184 = .ok (.iload 8, 2) := by decide +kernel
theorem dX12_blow_186 : decode cX12_blow 186 = .ok (.iadd, 1) := by decide +kernel
theorem dX12_blow_187 : decode cX12_blow 187 = .ok (.iload 4, 2) := by decide +kernel
theorem dX12_blow_189 : decode cX12_blow 189 = .ok (.isub, 1) := by decide +kernel
theorem dX12_blow_190 : decode cX12_blow 190 = .ok (.dup2, 1) := by decide +kernel
theorem dX12_blow_191 : decode cX12_blow 191 = .ok (.laload, 1) := by decide +kernel
theorem dX12_blow_192 : decode cX12_blow 192 = .ok (.lload 10, 2) := by decide +kernel
theorem dX12_blow_194 : decode cX12_blow 194 = .ok (.iload_n 3, 1) := by decide +kernel
theorem dX12_blow_195 : decode cX12_blow 195 = .ok (.i2l, 1) := by decide +kernel
theorem dX12_blow_196 : decode cX12_blow 196 = .ok (.lmul, 1) := by decide +kernel
theorem dX12_blow_197 : decode cX12_blow 197 = .ok (.ladd, 1) := by decide +kernel
theorem dX12_blow_198 : decode cX12_blow 198 = .ok (.lastore, 1) := by decide +kernel
theorem dX12_blow_199 : decode cX12_blow 199 = .ok (.iinc 9 1, 3) := by decide +kernel
theorem dX12_blow_202 : decode cX12_blow 202 = .ok (.goto (-127), 3) := by decide +kernel
theorem dX12_blow_205 : decode cX12_blow 205 = .ok (.iinc 8 1, 3) := by decide +kernel
theorem dX12_blow_208 : decode cX12_blow 208 = .ok (.goto (-142), 3) := by decide +kernel
theorem dX12_blow_211 : decode cX12_blow 211 = .ok (.iconst 0, 1) := by decide +kernel
theorem dX12_blow_212 : decode cX12_blow 212 = .ok (.istore 8, 2) := by decide +kernel
theorem dX12_blow_214 : decode cX12_blow 214 = .ok (.iload 8, 2) := by decide +kernel
theorem dX12_blow_216 : decode cX12_blow 216 = .ok (.sipush 542, 3) := by decide +kernel
theorem dX12_blow_219 : decode cX12_blow 219 = .ok (.if_icmp .ge 23, 3) := by decide +kernel
theorem dX12_blow_222 : decode cX12_blow 222 = .ok (.aload_n 0, 1) := by decide +kernel
theorem dX12_blow_223 : decode cX12_blow 223 = .ok (.getfield 69, 3) := by decide +kernel
theorem dX12_blow_226 : decode cX12_blow 226 = .ok (.iload 8, 2) := by decide +kernel
theorem dX12_blow_228 : decode cX12_blow 228 = .ok (.aload_n 0, 1) := by decide +kernel
theorem dX12_blow_229 : decode cX12_blow 229 = .ok (.getfield 72, 3) := by decide +kernel
theorem dX12_blow_232 : decode cX12_blow 232 = .ok (.iload 8, 2) := by decide +kernel
theorem dX12_blow_234 : decode cX12_blow 234 = .ok (.laload, 1) := by decide +kernel
theorem dX12_blow_235 : decode cX12_blow 235 = .ok (.lastore, 1) := by decide +kernel
theorem dX12_blow_236 : decode cX12_blow 236 = .ok (.iinc 8 1, 3) := by decide +kernel
theorem dX12_blow_239 : decode cX12_blow 239 = .ok (.goto (-25), 3) := by decide +kernel
theorem dX12_blow_242 : decode cX12_blow 242 = .ok (.lload 6, 2) := by decide +kernel
theorem dX12_blow_244 : decode cX12_blow 244 = .ok (.lreturn, 1) := by decide +kernel
theorem dX12_turnTo_0 : decode cX12_turnTo 0 = .ok (.iconst 0, 1) := by decide +kernel
theorem dX12_turnTo_1 : decode cX12_turnTo 1 = .ok (.istore_n 2, 1) := by decide +kernel
theorem dX12_turnTo_2 : decode cX12_turnTo 2 = .ok (.iload_n 2, 1) := by decide +kernel
theorem dX12_turnTo_3 : decode cX12_turnTo 3 = .ok (.iload_n 1, 1) := by decide +kernel
theorem dX12_turnTo_4 : decode cX12_turnTo 4 = .ok (.if_icmp .gt 39, 3) := by decide +kernel
theorem dX12_turnTo_7 : decode cX12_turnTo 7 = .ok (.aload_n 0, 1) := by decide +kernel
theorem dX12_turnTo_8 : decode cX12_turnTo 8 = .ok (.getfield 69, 3) := by decide +kernel
theorem dX12_turnTo_11 : decode cX12_turnTo 11 = .ok (.iload_n 2, 1) := by decide +kernel
theorem dX12_turnTo_12 : decode cX12_turnTo 12 = .ok (.dup2, 1) := by decide +kernel
theorem dX12_turnTo_13 : decode cX12_turnTo 13 = .ok (.laload, 1) := by decide +kernel
theorem dX12_turnTo_14 : decode cX12_turnTo 14 = .ok (.aload_n 0, 1) := by decide +kernel
theorem dX12_turnTo_15 : decode cX12_turnTo 15 = .ok (.getfield 69, 3) := by decide +kernel
theorem dX12_turnTo_18 : decode cX12_turnTo 18 = .ok (.sipush 271, 3) := by decide +kernel
theorem dX12_turnTo_21 : decode cX12_turnTo 21 = .ok (.iload_n 2, 1) := by decide +kernel
theorem dX12_turnTo_22 : decode cX12_turnTo 22 = .ok (.iadd, 1) := by decide +kernel
theorem dX12_turnTo_23 : decode cX12_turnTo 23 = .ok (.laload, 1) := by decide +kernel
theorem dX12_turnTo_24 : decode cX12_turnTo 24 = .ok (.ladd, 1) := by decide +kernel
theorem dX12_turnTo_25 : decode cX12_turnTo 25 = .ok (.lastore, 1) := by decide +kernel
theorem dX12_turnTo_26 : decode cX12_turnTo 26 = .ok (.aload_n 0, 1) := by decide +kernel
theorem dX12_turnTo_27 : decode cX12_turnTo 27 = .ok (.getfield 69, 3) := by decide +kernel
theorem dX12_turnTo_30 : decode cX12_turnTo 30 = .ok (.sipush 271, 3) := by decide +kernel
theorem dX12_turnTo_33 : decode cX12_turnTo 33 = .ok (.iload_n 2, 1) := by decide +kernel
theorem dX12_turnTo_34 : decode cX12_turnTo 34 = .ok (.iadd, 1) := by decide +kernel
theorem dX12_turnTo_35 : decode cX12_turnTo 35 = .ok (.lconst 0, 1) := by decide +kernel
theorem dX12_turnTo_36 : decode cX12_turnTo 36 = .ok (.lastore, 1) := by decide +kernel
theorem dX12_turnTo_37 : decode cX12_turnTo 37 = .ok (.iinc 2 1, 3) := by decide +kernel
theorem dX12_turnTo_40 : decode cX12_turnTo 40 = .ok (.goto (-38), 3) := by decide +kernel
theorem dX12_turnTo_43 : decode cX12_turnTo 43 = .ok (.return_, 1) := by decide +kernel
theorem dX12_standing_0 : decode cX12_standing 0 = .ok (.lconst 0, 1) := by decide +kernel
theorem dX12_standing_1 : decode cX12_standing 1 = .ok (.lstore_n 2, 1) := by decide +kernel
theorem dX12_standing_2 : decode cX12_standing 2 = .ok (.iconst 1, 1) := by decide +kernel
theorem dX12_standing_3 : decode cX12_standing 3 = .ok (.istore 4, 2) := by decide +kernel
theorem dX12_standing_5 : decode cX12_standing 5 = .ok (.iload 4, 2) := by decide +kernel
theorem dX12_standing_7 : decode cX12_standing 7 = .ok (.iload_n 1, 1) := by decide +kernel
theorem dX12_standing_8 : decode cX12_standing 8 = .ok (.if_icmp .gt 31, 3) := by decide +kernel
theorem dX12_standing_11 : decode cX12_standing 11 = .ok (.lload_n 2, 1) := by decide +kernel
theorem dX12_standing_12 : decode cX12_standing 12 = .ok (.aload_n 0, 1) := by decide +kernel
theorem dX12_standing_13 : decode cX12_standing 13 = .ok (.getfield 69, 3) := by decide +kernel
theorem dX12_standing_16 : decode cX12_standing 16 = .ok (.iload 4, 2) := by decide +kernel
theorem dX12_standing_18 : decode cX12_standing 18 = .ok (.laload, 1) := by decide +kernel
theorem dX12_standing_19 : decode cX12_standing 19 = .ok (.aload_n 0, 1) := by decide +kernel
theorem dX12_standing_20 : decode cX12_standing 20 = .ok (.getfield 69, 3) := by decide +kernel
theorem dX12_standing_23 : decode cX12_standing 23 = .ok (.sipush 271, 3) := by decide +kernel
theorem dX12_standing_26 : decode cX12_standing 26 = .ok (.iload 4, 2) := by decide +kernel
theorem dX12_standing_28 : decode cX12_standing 28 = .ok (.iadd, 1) := by decide +kernel
theorem dX12_standing_29 : decode cX12_standing 29 = .ok (.laload, 1) := by decide +kernel
theorem dX12_standing_30 : decode cX12_standing 30 = .ok (.ladd, 1) := by decide +kernel
theorem dX12_standing_31 : decode cX12_standing 31 = .ok (.ladd, 1) := by decide +kernel
theorem dX12_standing_32 : decode cX12_standing 32 = .ok (.lstore_n 2, 1) := by decide +kernel
theorem dX12_standing_33 : decode cX12_standing 33 = .ok (.iinc 4 1, 3) := by decide +kernel
theorem dX12_standing_36 : decode cX12_standing 36 = .ok (.goto (-31), 3) := by decide +kernel
theorem dX12_standing_39 : decode cX12_standing 39 = .ok (.lload_n 2, 1) := by decide +kernel
theorem dX12_standing_40 : decode cX12_standing 40 = .ok (.lreturn, 1) := by decide +kernel
theorem dX12_findChances_0 : decode cX12_findChances 0 = .ok (.aload_n 0, 1) := by decide +kernel
theorem dX12_findChances_1 : decode cX12_findChances 1 = .ok (.invokevirtual 409, 3) := by decide +kernel
theorem dX12_findChances_4 : decode cX12_findChances 4 = .ok (.iload_n 1, 1) := by decide +kernel
theorem dX12_findChances_5 : decode cX12_findChances 5 = .ok (.imul, 1) := by decide +kernel
theorem dX12_findChances_6 : decode cX12_findChances 6 = .ok (.istore_n 2, 1) := by decide +kernel
theorem dX12_findChances_7 : decode cX12_findChances 7 = .ok (.iconst 0, 1) := by decide +kernel
theorem dX12_findChances_8 : decode cX12_findChances 8 = .ok (.istore_n 3, 1) := by decide +kernel
theorem dX12_findChances_9 : decode cX12_findChances 9 = .ok (.iload_n 3, 1) := by decide +kernel
theorem dX12_findChances_10 : decode cX12_findChances 10 = .ok (.sipush 542, 3) := by decide +kernel
theorem dX12_findChances_13 : decode cX12_findChances 13 = .ok (.if_icmp .ge 25, 3) := by decide +kernel
theorem dX12_findChances_16 : decode cX12_findChances 16 = .ok (.aload_n 0, 1) := by decide +kernel
theorem dX12_findChances_17 : decode cX12_findChances 17 = .ok (.getfield 69, 3) := by decide +kernel
theorem dX12_findChances_20 : decode cX12_findChances 20 = .ok (.iload_n 3, 1) := by decide +kernel
theorem dX12_findChances_21 : decode cX12_findChances 21 = .ok (.iload_n 3, 1) := by decide +kernel
theorem dX12_findChances_22 : decode cX12_findChances 22 = .ok (.iload_n 2, 1) := by decide +kernel
theorem dX12_findChances_23 : decode cX12_findChances 23 = .ok (.if_icmp .ne 7, 3) := by decide +kernel
theorem dX12_findChances_26 : decode cX12_findChances 26 = .ok (.lconst 1, 1) := by decide +kernel
theorem dX12_findChances_27 : decode cX12_findChances 27 = .ok (.goto 4, 3) := by decide +kernel
theorem dX12_findChances_30 : decode cX12_findChances 30 = .ok (.lconst 0, 1) := by decide +kernel
theorem dX12_findChances_31 : decode cX12_findChances 31 = .ok (.lastore, 1) := by decide +kernel
theorem dX12_findChances_32 : decode cX12_findChances 32 = .ok (.iinc 3 1, 3) := by decide +kernel
theorem dX12_findChances_35 : decode cX12_findChances 35 = .ok (.goto (-26), 3) := by decide +kernel
theorem dX12_findChances_38 : decode cX12_findChances 38 = .ok (.aload_n 0, 1) := by decide +kernel
theorem dX12_findChances_39 : decode cX12_findChances 39 = .ok (.lconst 1, 1) := by decide +kernel
theorem dX12_findChances_40 : decode cX12_findChances 40 = .ok (.putfield 467, 3) := by decide +kernel
theorem dX12_findChances_43 : decode cX12_findChances 43 = .ok (.aload_n 0, 1) := by decide +kernel
theorem dX12_findChances_44 : decode cX12_findChances 44 = .ok (.lconst 0, 1) := by decide +kernel
theorem dX12_findChances_45 : decode cX12_findChances 45 = .ok (.putfield 470, 3) := by decide +kernel
theorem dX12_findChances_48 : decode cX12_findChances 48 = .ok (.aload_n 0, 1) := by decide +kernel
theorem dX12_findChances_49 : decode cX12_findChances 49 = .ok (.lconst 0, 1) := by decide +kernel
theorem dX12_findChances_50 : decode cX12_findChances 50 = .ok (.putfield 473, 3) := by decide +kernel
theorem dX12_findChances_53 : decode cX12_findChances 53 = .ok (.iconst 0, 1) := by decide +kernel
theorem dX12_findChances_54 : decode cX12_findChances 54 = .ok (.istore_n 3, 1) := by decide +kernel
theorem dX12_findChances_55 : decode cX12_findChances 55 = .ok (.iload_n 3, 1) := by decide +kernel
theorem dX12_findChances_56 : decode cX12_findChances 56 = .ok (.bipush 8, 2) := by decide +kernel
theorem dX12_findChances_58 : decode cX12_findChances 58 = .ok (.if_icmp .ge 16, 3) := by decide +kernel
theorem dX12_findChances_61 : decode cX12_findChances 61 = .ok (.aload_n 0, 1) := by decide +kernel
theorem dX12_findChances_62 : decode cX12_findChances 62 = .ok (.getfield 75, 3) := by decide +kernel
theorem dX12_findChances_65 : decode cX12_findChances 65 = .ok (.iload_n 3, 1) := by decide +kernel
theorem dX12_findChances_66 : decode cX12_findChances 66 = .ok (.lconst 0, 1) := by decide +kernel
theorem dX12_findChances_67 : decode cX12_findChances 67 = .ok (.lastore, 1) := by decide +kernel
theorem dX12_findChances_68 : decode cX12_findChances 68 = .ok (.iinc 3 1, 3) := by decide +kernel
theorem dX12_findChances_71 : decode cX12_findChances 71 = .ok (.goto (-16), 3) := by decide +kernel
theorem dX12_findChances_74 : decode cX12_findChances 74 = .ok (.iconst 0, 1) := by decide +kernel
theorem dX12_findChances_75 : decode cX12_findChances 75 = .ok (.istore_n 3, 1) := by decide +kernel
theorem dX12_findChances_76 : decode cX12_findChances 76 = .ok (.iload_n 3, 1) := by decide +kernel
theorem dX12_findChances_77 : decode cX12_findChances 77 = .ok (.aload_n 0, 1) := by decide +kernel
theorem dX12_findChances_78 : decode cX12_findChances 78 = .ok (.getfield 319, 3) := by decide +kernel
theorem dX12_findChances_81 : decode cX12_findChances 81 = .ok (.if_icmp .ge 142, 3) := by decide +kernel
theorem dX12_findChances_84 : decode cX12_findChances 84 = .ok (.aload_n 0, 1) := by decide +kernel
theorem dX12_findChances_85 : decode cX12_findChances 85 = .ok (.iload_n 2, 1) := by decide +kernel
theorem dX12_findChances_86 : decode cX12_findChances 86 = .ok (.invokevirtual 476, 3) := by decide +kernel
theorem dX12_findChances_89 : decode cX12_findChances 89 = .ok (.aload_n 0, 1) := by decide +kernel
theorem dX12_findChances_90 : decode cX12_findChances 90 = .ok (.iload_n 3, 1) := by decide +kernel
theorem dX12_findChances_91 : decode cX12_findChances 91 = .ok (.aload_n 0, 1) := by decide +kernel
theorem dX12_findChances_92 : decode cX12_findChances 92 = .ok (.getfield 319, 3) := by decide +kernel
theorem dX12_findChances_95 : decode cX12_findChances 95 = .ok (.iconst 1, 1) := by decide +kernel
theorem dX12_findChances_96 : decode cX12_findChances 96 = .ok (.isub, 1) := by decide +kernel
theorem dX12_findChances_97 : decode cX12_findChances 97 = .ok (.if_icmp .ne 11, 3) := by decide +kernel
theorem dX12_findChances_100 : decode cX12_findChances 100 = .ok (.aload_n 0, 1) := by decide +kernel
theorem dX12_findChances_101 : decode cX12_findChances 101 = .ok (.iload_n 2, 1) := by decide +kernel
theorem dX12_findChances_102 : decode cX12_findChances 102 = .ok (.invokevirtual 479, 3) := by decide +kernel
theorem dX12_findChances_105 : decode cX12_findChances 105 = .ok (.goto 7, 3) := by decide +kernel
theorem dX12_findChances_108 : decode cX12_findChances 108 = .ok (.aload_n 0, 1) := by decide +kernel
theorem dX12_findChances_109 : decode cX12_findChances 109 = .ok (.getfield 470, 3) := by decide +kernel
theorem dX12_findChances_112 : decode cX12_findChances 112 = .ok (.putfield 470, 3) := by decide +kernel
theorem dX12_findChances_115 : decode cX12_findChances 115 = .ok (.iconst 0, 1) := by decide +kernel
theorem dX12_findChances_116 : decode cX12_findChances 116 = .ok (.istore 4, 2) := by decide +kernel
theorem dX12_findChances_118 : decode cX12_findChances 118 = .ok (.iload 4, 2) := by decide +kernel
theorem dX12_findChances_120 : decode cX12_findChances 120 = .ok (.aload_n 0, 1) := by decide +kernel
theorem dX12_findChances_121 : decode cX12_findChances 121 = .ok (.getfield 322, 3) := by decide +kernel
theorem dX12_findChances_124 : decode cX12_findChances 124 = .ok (.if_icmp .ge 93, 3) := by decide +kernel
theorem dX12_findChances_127 : decode cX12_findChances 127 = .ok (.aload_n 0, 1) := by decide +kernel
theorem dX12_findChances_128 : decode cX12_findChances 128 = .ok (.aload_n 0, 1) := by decide +kernel
theorem dX12_findChances_129 : decode cX12_findChances 129 = .ok (.getfield 78, 3) := by decide +kernel
theorem dX12_findChances_132 : decode cX12_findChances 132 = .ok (.iload_n 3, 1) := by decide +kernel
theorem dX12_findChances_133 : decode cX12_findChances 133 = .ok (.iaload, 1) := by decide +kernel
theorem dX12_findChances_134 : decode cX12_findChances 134 = .ok (.iload_n 2, 1) := by decide +kernel
theorem dX12_findChances_135 : decode cX12_findChances 135 = .ok (.invokevirtual 483, 3) := by decide +kernel
theorem dX12_findChances_138 : decode cX12_findChances 138 = .ok (.lstore 5, 2) := by decide +kernel
theorem dX12_findChances_140 : decode cX12_findChances 140 = .ok (.aload_n 0, 1) := by decide +kernel
theorem dX12_findChances_141 : decode cX12_findChances 141 = .ok (.dup, 1) := by decide +kernel
theorem dX12_findChances_142 : decode cX12_findChances 142 = .ok (.getfield 467, 3) := by decide +kernel
theorem dX12_findChances_145 : decode cX12_findChances 145 = .ok (.ldc2_w 487, 3) := by decide +kernel
theorem dX12_findChances_148 : decode cX12_findChances 148 = .ok (.lmul, 1) := by decide +kernel
theorem dX12_findChances_149 : decode cX12_findChances 149 = .ok (.putfield 467, 3) := by decide +kernel
theorem dX12_findChances_152 : decode cX12_findChances 152 = .ok (.iconst 0, 1) := by decide +kernel
theorem dX12_findChances_153 : decode cX12_findChances 153 = .ok (.istore 7, 2) := by decide +kernel
theorem dX12_findChances_155 : decode cX12_findChances 155 = .ok (.iload 7, 2) := by decide +kernel
theorem dX12_findChances_157 : decode cX12_findChances 157 = .ok (.aload_n 0, 1) := by decide +kernel
theorem dX12_findChances_158 : decode cX12_findChances 158 = .ok (.getfield 319, 3) := by decide +kernel
theorem dX12_findChances_161 : decode cX12_findChances 161 = .ok (.if_icmp .ge 22, 3) := by decide +kernel
theorem dX12_findChances_164 : decode cX12_findChances 164 = .ok (.aload_n 0, 1) := by decide +kernel
theorem dX12_findChances_165 : decode cX12_findChances 165 = .ok (.getfield 75, 3) := by decide +kernel
theorem dX12_findChances_168 : decode cX12_findChances 168 = .ok (.iload 7, 2) := by decide +kernel
theorem dX12_findChances_170 : decode cX12_findChances 170 = .ok (.dup2, 1) := by decide +kernel
theorem dX12_findChances_171 : decode cX12_findChances 171 = .ok (.laload, 1) := by decide +kernel
theorem dX12_findChances_172 : decode cX12_findChances 172 = .ok (.ldc2_w 487, 3) := by decide +kernel
theorem dX12_findChances_175 : decode cX12_findChances 175 = .ok (.lmul, 1) := by decide +kernel
theorem dX12_findChances_176 : decode cX12_findChances 176 = .ok (.lastore, 1) := by decide +kernel
theorem dX12_findChances_177 : decode cX12_findChances 177 = .ok (.iinc 7 1, 3) := by decide +kernel
theorem dX12_findChances_180 : decode cX12_findChances 180 = .ok (.goto (-25), 3) := by decide +kernel
theorem dX12_findChances_183 : decode cX12_findChances 183 = .ok (.aload_n 0, 1) := by decide +kernel
theorem dX12_findChances_184 : decode cX12_findChances 184 = .ok (.getfield 75, 3) := by decide +kernel
theorem dX12_findChances_187 : decode cX12_findChances 187 = .ok (.aload_n 0, 1) := by decide +kernel
theorem dX12_findChances_188 : decode cX12_findChances 188 = .ok (.getfield 78, 3) := by decide +kernel
theorem dX12_findChances_191 : decode cX12_findChances 191 = .ok (.iload_n 3, 1) := by decide +kernel
theorem dX12_findChances_192 : decode cX12_findChances 192 = .ok (.iaload, 1) := by decide +kernel
theorem dX12_findChances_193 : decode cX12_findChances 193 = .ok (.dup2, 1) := by decide +kernel
theorem dX12_findChances_194 : decode cX12_findChances 194 = .ok (.laload, 1) := by decide +kernel
theorem dX12_findChances_195 : decode cX12_findChances 195 = .ok (.lload 5, 2) := by decide +kernel
theorem dX12_findChances_197 : decode cX12_findChances 197 = .ok (.ladd, 1) := by decide +kernel
theorem dX12_findChances_198 : decode cX12_findChances 198 = .ok (.lastore, 1) := by decide +kernel
theorem dX12_findChances_199 : decode cX12_findChances 199 = .ok (.aload_n 0, 1) := by decide +kernel
theorem dX12_findChances_200 : decode cX12_findChances 200 = .ok (.dup, 1) := by decide +kernel
theorem dX12_findChances_201 : decode cX12_findChances 201 = .ok (.getfield 470, 3) := by decide +kernel
theorem dX12_findChances_204 : decode cX12_findChances 204 = .ok (.ldc2_w 487, 3) := by decide +kernel
theorem dX12_findChances_207 : decode cX12_findChances 207 = .ok (.lmul, 1) := by decide +kernel
theorem dX12_findChances_208 : decode cX12_findChances 208 = .ok (.putfield 470, 3) := by decide +kernel
theorem dX12_findChances_211 : decode cX12_findChances 211 = .ok (.iinc 4 1, 3) := by decide +kernel
theorem dX12_findChances_214 : decode cX12_findChances 214 = .ok (.goto (-96), 3) := by decide +kernel
theorem dX12_findChances_217 : decode cX12_findChances 217 = .ok (.iinc 3 1, 3) := by decide +kernel
theorem dX12_findChances_220 : decode cX12_findChances 220 = .ok (.goto (-144), 3) := by decide +kernel
theorem dX12_findChances_223 : decode cX12_findChances 223 = .ok (.aload_n 0, 1) := by decide +kernel
theorem dX12_findChances_224 : decode cX12_findChances 224 = .ok (.aload_n 0, 1) := by decide +kernel
theorem dX12_findChances_225 : decode cX12_findChances 225 = .ok (.getfield 75, 3) := by decide +kernel
theorem dX12_findChances_228 : decode cX12_findChances 228 = .ok (.aload_n 0, 1) := by decide +kernel
theorem dX12_findChances_229 : decode cX12_findChances 229 = .ok (.getfield 78, 3) := by decide +kernel
theorem dX12_findChances_232 : decode cX12_findChances 232 = .ok (.aload_n 0, 1) := by decide +kernel
theorem dX12_findChances_233 : decode cX12_findChances 233 = .ok (.getfield 319, 3) := by decide +kernel
theorem dX12_findChances_236 : decode cX12_findChances 236 = .ok (.iconst 1, 1) := by decide +kernel
theorem dX12_findChances_237 : decode cX12_findChances 237 = .ok (.isub, 1) := by decide +kernel
theorem dX12_findChances_238 : decode cX12_findChances 238 = .ok (.iaload, 1) := by decide +kernel
theorem dX12_findChances_239 : decode cX12_findChances 239 = .ok (.laload, 1) := by decide +kernel
theorem dX12_findChances_240 : decode cX12_findChances 240 = .ok (.putfield 473, 3) := by decide +kernel
theorem dX12_findChances_243 : decode cX12_findChances 243 = .ok (.aload_n 0, 1) := by decide +kernel
theorem dX12_findChances_244 : decode cX12_findChances 244 = .ok (.aload_n 0, 1) := by decide +kernel
theorem dX12_findChances_245 : decode cX12_findChances 245 = .ok (.iload_n 2, 1) := by decide +kernel
theorem dX12_findChances_246 : decode cX12_findChances 246 = .ok (.invokevirtual 479, 3) := by decide +kernel
theorem dX12_findChances_249 : decode cX12_findChances 249 = .ok (.putfield 489, 3) := by decide +kernel
theorem dX12_findChances_252 : decode cX12_findChances 252 = .ok (.return_, 1) := by decide +kernel
theorem dX12_chance_0 : decode cX12_chance 0 = .ok (.aload_n 0, 1) := by decide +kernel
theorem dX12_chance_1 : decode cX12_chance 1 = .ok (.iconst 0, 1) := by decide +kernel
theorem dX12_chance_2 : decode cX12_chance 2 = .ok (.putfield 97, 3) := by decide +kernel
theorem dX12_chance_5 : decode cX12_chance 5 = .ok (.iload_n 3, 1) := by decide +kernel
theorem dX12_chance_6 : decode cX12_chance 6 = .ok (.iconst 1, 1) := by decide +kernel
theorem dX12_chance_7 : decode cX12_chance 7 = .ok (.bipush 9, 2) := by decide +kernel
theorem dX12_chance_9 : decode cX12_chance 9 = .ok (.invokestatic 105, 3) := by decide +kernel
theorem dX12_chance_12 : decode cX12_chance 12 = .ok (.ifCond .eq 53, 3) := by decide +kernel
theorem dX12_chance_15 : decode cX12_chance 15 = .ok (.aload_n 0, 1) := by decide +kernel
theorem dX12_chance_16 : decode cX12_chance 16 = .ok (.iload_n 1, 1) := by decide +kernel
theorem dX12_chance_17 : decode cX12_chance 17 = .ok (.invokevirtual 328, 3) := by decide +kernel
theorem dX12_chance_20 : decode cX12_chance 20 = .ok (.ifCond .eq 45, 3) := by decide +kernel
theorem dX12_chance_23 : decode cX12_chance 23 = .ok (.aload_n 0, 1) := by decide +kernel
theorem dX12_chance_24 : decode cX12_chance 24 = .ok (.invokevirtual 492, 3) := by decide +kernel
theorem dX12_chance_27 : decode cX12_chance 27 = .ok (.ifCond .eq 38, 3) := by decide +kernel
theorem dX12_chance_30 : decode cX12_chance 30 = .ok (.aload_n 0, 1) := by decide +kernel
theorem dX12_chance_31 : decode cX12_chance 31 = .ok (.iload_n 2, 1) := by decide +kernel
theorem dX12_chance_32 : decode cX12_chance 32 = .ok (.invokevirtual 495, 3) := by decide +kernel
theorem dX12_chance_35 : decode cX12_chance 35 = .ok (.ifCond .eq 30, 3) := by decide +kernel
theorem dX12_chance_38 : decode cX12_chance 38 = .ok (.iload 4, 2) := by decide +kernel
theorem dX12_chance_40 : decode cX12_chance 40 = .ok (.iconst 0, 1) := by decide +kernel
theorem dX12_chance_41 : decode cX12_chance 41 = .ok (.iconst 2, 1) := by decide +kernel
theorem dX12_chance_42 : decode cX12_chance 42 = .ok (.invokestatic 105, 3) := by decide +kernel
theorem dX12_chance_45 : decode cX12_chance 45 = .ok (.ifCond .ne 24, 3) := by decide +kernel
theorem dX12_chance_48 : decode cX12_chance 48 = .ok (.iload 4, 2) := by decide +kernel
theorem dX12_chance_50 : decode cX12_chance 50 = .ok (.bipush 10, 2) := by decide +kernel
theorem dX12_chance_52 : decode cX12_chance 52 = .ok (.bipush 9, 2) := by decide +kernel
theorem dX12_chance_54 : decode cX12_chance 54 = .ok (.aload_n 0, 1) := by decide +kernel
theorem dX12_chance_55 : decode cX12_chance 55 = .ok (.getfield 319, 3) := by decide +kernel
theorem dX12_chance_58 : decode cX12_chance 58 = .ok (.iadd, 1) := by decide +kernel
theorem dX12_chance_59 : decode cX12_chance 59 = .ok (.invokestatic 105, 3) := by decide +kernel
theorem dX12_chance_62 : decode cX12_chance 62 = .ok (.ifCond .ne 7, 3) := by decide +kernel
theorem dX12_chance_65 : decode cX12_chance 65 = .ok (.ldc2_w 459, 3) := by decide +kernel
theorem dX12_chance_68 : decode cX12_chance 68 = .ok (.lreturn, 1) := by decide +kernel
theorem dX12_chance_69 : decode cX12_chance 69 = .ok (.aload_n 0, 1) := by decide +kernel
theorem dX12_chance_70 : decode cX12_chance 70 = .ok (.iload_n 3, 1) := by decide +kernel
theorem dX12_chance_71 : decode cX12_chance 71 = .ok (.invokevirtual 498, 3) := by decide +kernel
theorem dX12_chance_74 : decode cX12_chance 74 = .ok (.iload 4, 2) := by decide +kernel
theorem dX12_chance_76 : decode cX12_chance 76 = .ok (.ifCond .ne 10, 3) := by decide +kernel
theorem dX12_chance_79 : decode cX12_chance 79 = .ok (.aload_n 0, 1) := by decide +kernel
theorem dX12_chance_80 : decode cX12_chance 80 = .ok (.getfield 470, 3) := by decide +kernel
theorem dX12_chance_83 : decode cX12_chance 83 = .ok (.goto 39, 3) := by decide +kernel
theorem dX12_chance_86 : decode cX12_chance 86 = .ok (.iload 4, 2) := by decide +kernel
theorem dX12_chance_88 : decode cX12_chance 88 = .ok (.iconst 1, 1) := by decide +kernel
theorem dX12_chance_89 : decode cX12_chance 89 = .ok (.if_icmp .ne 10, 3) := by decide +kernel
theorem dX12_chance_92 : decode cX12_chance 92 = .ok (.aload_n 0, 1) := by decide +kernel
theorem dX12_chance_93 : decode cX12_chance 93 = .ok (.getfield 489, 3) := by decide +kernel
theorem dX12_chance_96 : decode cX12_chance 96 = .ok (.goto 26, 3) := by decide +kernel
theorem dX12_chance_99 : decode cX12_chance 99 = .ok (.iload 4, 2) := by decide +kernel
theorem dX12_chance_101 : decode cX12_chance 101 = .ok (.iconst 2, 1) := by decide +kernel
theorem dX12_chance_102 : decode cX12_chance 102 = .ok (.if_icmp .ne 10, 3) := by decide +kernel
theorem dX12_chance_105 : decode cX12_chance 105 = .ok (.aload_n 0, 1) := by decide +kernel
theorem dX12_chance_106 : decode cX12_chance 106 = .ok (.getfield 473, 3) := by decide +kernel
theorem dX12_chance_109 : decode cX12_chance 109 = .ok (.goto 13, 3) := by decide +kernel
theorem dX12_chance_112 : decode cX12_chance 112 = .ok (.aload_n 0, 1) := by decide +kernel
theorem dX12_chance_113 : decode cX12_chance 113 = .ok (.getfield 75, 3) := by decide +kernel
theorem dX12_chance_116 : decode cX12_chance 116 = .ok (.iload 4, 2) := by decide +kernel
theorem dX12_chance_118 : decode cX12_chance 118 = .ok (.bipush 10, 2) := by decide +kernel
theorem dX12_chance_120 : decode cX12_chance 120 = .ok (.isub, 1) := by decide +kernel
theorem dX12_chance_121 : decode cX12_chance 121 = .ok (.laload, 1) := by decide +kernel
theorem dX12_chance_122 : decode cX12_chance 122 = .ok (.aload_n 0, 1) := by decide +kernel
theorem dX12_chance_123 : decode cX12_chance 123 = .ok (.getfield 467, 3) := by decide +kernel
theorem dX12_chance_126 : decode cX12_chance 126 = .ok (.iload 5, 2) := by decide +kernel
theorem dX12_chance_128 : decode cX12_chance 128 = .ok (.invokestatic 455, 3) := by decide +kernel
theorem dX12_chance_131 : decode cX12_chance 131 = .ok (.lreturn, 1) := by decide +kernel
theorem dX12_ifTaken_0 : decode cX12_ifTaken 0 = .ok (.aload_n 0, 1) := by decide +kernel
theorem dX12_ifTaken_1 : decode cX12_ifTaken 1 = .ok (.iload_n 1, 1) := by decide +kernel
theorem dX12_ifTaken_2 : decode cX12_ifTaken 2 = .ok (.iconst 1, 1) := by decide +kernel
theorem dX12_ifTaken_3 : decode cX12_ifTaken 3 = .ok (.invokevirtual 334, 3) := by decide +kernel
theorem dX12_ifTaken_6 : decode cX12_ifTaken 6 = .ok (.istore 4, 2) := by decide +kernel
theorem dX12_ifTaken_8 : decode cX12_ifTaken 8 = .ok (.iload 4, 2) := by decide +kernel
theorem dX12_ifTaken_10 : decode cX12_ifTaken 10 = .ok (.iload_n 3, 1) := by decide +kernel
theorem dX12_ifTaken_11 : decode cX12_ifTaken 11 = .ok (.if_icmp .lt 34, 3) := by decide +kernel
theorem dX12_ifTaken_14 : decode cX12_ifTaken 14 = .ok (.iload_n 1, 1) := by decide +kernel
theorem dX12_ifTaken_15 : decode cX12_ifTaken 15 = .ok (.aload_n 0, 1) := by decide +kernel
theorem dX12_ifTaken_16 : decode cX12_ifTaken 16 = .ok (.getfield 319, 3) := by decide +kernel
theorem dX12_ifTaken_19 : decode cX12_ifTaken 19 = .ok (.iconst 1, 1) := by decide +kernel
theorem dX12_ifTaken_20 : decode cX12_ifTaken 20 = .ok (.isub, 1) := by decide +kernel
theorem dX12_ifTaken_21 : decode cX12_ifTaken 21 = .ok (.if_icmp .ne 22, 3) := by decide +kernel
theorem dX12_ifTaken_24 : decode cX12_ifTaken 24 = .ok (.aload_n 0, 1) := by decide +kernel
theorem dX12_ifTaken_25 : decode cX12_ifTaken 25 = .ok (.getfield 319, 3) := by decide +kernel
theorem dX12_ifTaken_28 : decode cX12_ifTaken 28 = .ok (.aload_n 0, 1) := by decide +kernel
theorem dX12_ifTaken_29 : decode cX12_ifTaken 29 = .ok (.getfield 322, 3) := by decide +kernel
theorem dX12_ifTaken_32 : decode cX12_ifTaken 32 = .ok (.imul, 1) := by decide +kernel
theorem dX12_ifTaken_33 : decode cX12_ifTaken 33 = .ok (.iload_n 2, 1) := by decide +kernel
theorem dX12_ifTaken_34 : decode cX12_ifTaken 34 = .ok (.isub, 1) := by decide +kernel
theorem dX12_ifTaken_35 : decode cX12_ifTaken 35 = .ok (.iconst 1, 1) := by decide +kernel
theorem dX12_ifTaken_36 : decode cX12_ifTaken 36 = .ok (.isub, 1) := by decide +kernel
theorem dX12_ifTaken_37 : decode cX12_ifTaken 37 = .ok (.invokestatic 501, 3) := by decide +kernel
theorem dX12_ifTaken_40 : decode cX12_ifTaken 40 = .ok (.goto 4, 3) := by decide +kernel
theorem dX12_ifTaken_43 : decode cX12_ifTaken 43 = .ok (.lconst 0, 1) := by decide +kernel
theorem dX12_ifTaken_44 : decode cX12_ifTaken 44 = .ok (.lreturn, 1) := by decide +kernel
theorem dX12_ifTaken_45 : decode cX12_ifTaken 45 = .ok (.aload_n 0, 1) := by decide +kernel
theorem dX12_ifTaken_46 : decode cX12_ifTaken 46 = .ok (.getfield 81, 3) := by decide +kernel
theorem dX12_ifTaken_49 : decode cX12_ifTaken 49 = .ok (.bipush 31, 2) := by decide +kernel
theorem dX12_ifTaken_51 : decode cX12_ifTaken 51 = .ok (.iload_n 2, 1) := by decide +kernel
theorem dX12_ifTaken_52 : decode cX12_ifTaken 52 = .ok (.iconst 1, 1) := by decide +kernel
theorem dX12_ifTaken_53 : decode cX12_ifTaken 53 = .ok (.iadd, 1) := by decide +kernel
theorem dX12_ifTaken_54 : decode cX12_ifTaken 54 = .ok (.imul, 1) := by decide +kernel
theorem dX12_ifTaken_55 : decode cX12_ifTaken 55 = .ok (.iload_n 3, 1) := by decide +kernel
theorem dX12_ifTaken_56 : decode cX12_ifTaken 56 = .ok (.iadd, 1) := by decide +kernel
theorem dX12_ifTaken_57 : decode cX12_ifTaken 57 = .ok (.iload 4, 2) := by decide +kernel
theorem dX12_ifTaken_59 : decode cX12_ifTaken 59 = .ok (.isub, 1) := by decide +kernel
theorem dX12_ifTaken_60 : decode cX12_ifTaken 60 = .ok (.laload, 1) := by decide +kernel
theorem dX12_ifTaken_61 : decode cX12_ifTaken 61 = .ok (.lreturn, 1) := by decide +kernel
theorem dX12_tens_0 : decode cX12_tens 0 = .ok (.lconst 1, 1) := by decide +kernel
theorem dX12_tens_1 : decode cX12_tens 1 = .ok (.lstore_n 1, 1) := by decide +kernel
theorem dX12_tens_2 : decode cX12_tens 2 = .ok (.iconst 0, 1) := by decide +kernel
theorem dX12_tens_3 : decode cX12_tens 3 = .ok (.istore_n 3, 1) := by decide +kernel
theorem dX12_tens_4 : decode cX12_tens 4 = .ok (.iload_n 3, 1) := by decide +kernel
theorem dX12_tens_5 : decode cX12_tens 5 = .ok (.iload_n 0, 1) := by decide +kernel
theorem dX12_tens_6 : decode cX12_tens 6 = .ok (.if_icmp .ge 15, 3) := by decide +kernel
theorem dX12_tens_9 : decode cX12_tens 9 = .ok (.lload_n 1, 1) := by decide +kernel
theorem dX12_tens_10 : decode cX12_tens 10 = .ok (.ldc2_w 487, 3) := by decide +kernel
theorem dX12_tens_13 : decode cX12_tens 13 = .ok (.lmul, 1) := by decide +kernel
theorem dX12_tens_14 : decode cX12_tens 14 = .ok (.lstore_n 1, 1) := by decide +kernel
theorem dX12_tens_15 : decode cX12_tens 15 = .ok (.iinc 3 1, 3) := by decide +kernel
theorem dX12_tens_18 : decode cX12_tens 18 = .ok (.goto (-14), 3) := by decide +kernel
theorem dX12_tens_21 : decode cX12_tens 21 = .ok (.lload_n 1, 1) := by decide +kernel
theorem dX12_tens_22 : decode cX12_tens 22 = .ok (.lreturn, 1) := by decide +kernel
theorem dX12_findWorth_0 : decode cX12_findWorth 0 = .ok (.aload_n 0, 1) := by decide +kernel
theorem dX12_findWorth_1 : decode cX12_findWorth 1 = .ok (.getfield 319, 3) := by decide +kernel
theorem dX12_findWorth_4 : decode cX12_findWorth 4 = .ok (.aload_n 0, 1) := by decide +kernel
theorem dX12_findWorth_5 : decode cX12_findWorth 5 = .ok (.getfield 322, 3) := by decide +kernel
theorem dX12_findWorth_8 : decode cX12_findWorth 8 = .ok (.imul, 1) := by decide +kernel
theorem dX12_findWorth_9 : decode cX12_findWorth 9 = .ok (.istore_n 1, 1) := by decide +kernel
theorem dX12_findWorth_10 : decode cX12_findWorth 10 = .ok (.iconst 0, 1) := by decide +kernel
theorem dX12_findWorth_11 : decode cX12_findWorth 11 = .ok (.istore_n 2, 1) := by decide +kernel
theorem dX12_findWorth_12 : decode cX12_findWorth 12 = .ok (.iload_n 2, 1) := by decide +kernel
theorem dX12_findWorth_13 : decode cX12_findWorth 13 = .ok (.bipush 30, 2) := by decide +kernel
theorem dX12_findWorth_15 : decode cX12_findWorth 15 = .ok (.if_icmp .gt 21, 3) := by decide +kernel
theorem dX12_findWorth_18 : decode cX12_findWorth 18 = .ok (.aload_n 0, 1) := by decide +kernel
theorem dX12_findWorth_19 : decode cX12_findWorth 19 = .ok (.getfield 81, 3) := by decide +kernel
theorem dX12_findWorth_22 : decode cX12_findWorth 22 = .ok (.bipush 31, 2) := by decide +kernel
theorem dX12_findWorth_24 : decode cX12_findWorth 24 = .ok (.iload_n 1, 1) := by decide +kernel
theorem dX12_findWorth_25 : decode cX12_findWorth 25 = .ok (.imul, 1) := by decide +kernel
theorem dX12_findWorth_26 : decode cX12_findWorth 26 = .ok (.iload_n 2, 1) := by decide +kernel
theorem dX12_findWorth_27 : decode cX12_findWorth 27 = .ok (.iadd, 1) := by decide +kernel
theorem dX12_findWorth_28 : decode cX12_findWorth 28 = .ok (.lconst 0, 1) := by decide +kernel
theorem dX12_findWorth_29 : decode cX12_findWorth 29 = .ok (.lastore, 1) := by decide +kernel
theorem dX12_findWorth_30 : decode cX12_findWorth 30 = .ok (.iinc 2 1, 3) := by decide +kernel
theorem dX12_findWorth_33 : decode cX12_findWorth 33 = .ok (.goto (-21), 3) := by decide +kernel
theorem dX12_findWorth_36 : decode cX12_findWorth 36 = .ok (.iload_n 1, 1) := by decide +kernel
theorem dX12_findWorth_37 : decode cX12_findWorth 37 = .ok (.iconst 1, 1) := by decide +kernel
theorem dX12_findWorth_38 : decode cX12_findWorth 38 = .ok (.isub, 1) := by decide +kernel
theorem dX12_findWorth_39 : decode cX12_findWorth 39 = .ok (.istore_n 2, 1) := by decide +kernel
theorem dX12_findWorth_40 : decode cX12_findWorth 40 = .ok (.iload_n 2, 1) := by decide +kernel
theorem dX12_findWorth_41 : decode cX12_findWorth 41 = .ok (.ifCond .lt 107, 3) := by decide +kernel
theorem dX12_findWorth_44 : decode cX12_findWorth 44 = .ok (.iload_n 2, 1) := by decide +kernel
theorem dX12_findWorth_45 : decode cX12_findWorth 45 = .ok (.aload_n 0, 1) := by decide +kernel
theorem dX12_findWorth_46 : decode cX12_findWorth 46 = .ok (.getfield 322, 3) := by decide +kernel
theorem dX12_findWorth_49 : decode cX12_findWorth 49 = .ok (.idiv, 1) := by decide +kernel
theorem dX12_findWorth_50 : decode cX12_findWorth 50 = .ok (.istore_n 3, 1) := by decide +kernel
theorem dX12_findWorth_51 : decode cX12_findWorth 51 = .ok (.aload_n 0, 1) := by decide +kernel
theorem dX12_findWorth_52 : decode cX12_findWorth 52 = .ok (.iload_n 3, 1) := by decide +kernel
theorem dX12_findWorth_53 : decode cX12_findWorth 53 = .ok (.iconst 2, 1) := by decide +kernel
theorem dX12_findWorth_54 : decode cX12_findWorth 54 = .ok (.invokevirtual 334, 3) := by decide +kernel
theorem dX12_findWorth_57 : decode cX12_findWorth 57 = .ok (.istore 4, 2) := by decide +kernel
theorem dX12_findWorth_59 : decode cX12_findWorth 59 = .ok (.iconst 1, 1) := by decide +kernel
theorem dX12_findWorth_60 : decode cX12_findWorth 60 = .ok (.istore 5, 2) := by decide +kernel
theorem dX12_findWorth_62 : decode cX12_findWorth 62 = .ok (.iload 5, 2) := by decide +kernel
theorem dX12_findWorth_64 : decode cX12_findWorth 64 = .ok (.bipush 30, 2) := by decide +kernel
theorem dX12_findWorth_66 : decode cX12_findWorth 66 = .ok (.if_icmp .gt 76, 3) := by decide +kernel
theorem dX12_findWorth_69 : decode cX12_findWorth 69 = .ok (.aload_n 0, 1) := by decide +kernel
theorem dX12_findWorth_70 : decode cX12_findWorth 70 = .ok (.getfield 81, 3) := by decide +kernel
theorem dX12_findWorth_73 : decode cX12_findWorth 73 = .ok (.bipush 31, 2) := by decide +kernel
theorem dX12_findWorth_75 : decode cX12_findWorth 75 = .ok (.iload_n 2, 1) := by decide +kernel
theorem dX12_findWorth_76 : decode cX12_findWorth 76 = .ok (.iconst 1, 1) := by decide +kernel
theorem dX12_findWorth_77 : decode cX12_findWorth 77 = .ok (.iadd, 1) := by decide +kernel
theorem dX12_findWorth_78 : decode cX12_findWorth 78 = .ok (.imul, 1) := by decide +kernel
theorem dX12_findWorth_79 : decode cX12_findWorth 79 = .ok (.iload 5, 2) := by decide +kernel
theorem dX12_findWorth_81 : decode cX12_findWorth 81 = .ok (.iadd, 1) := by decide +kernel
theorem dX12_findWorth_82 : decode cX12_findWorth 82 = .ok (.laload, 1) := by decide +kernel
theorem dX12_findWorth_83 : decode cX12_findWorth 83 = .ok (.lstore 6, 2) := by decide +kernel
theorem dX12_findWorth_85 : decode cX12_findWorth 85 = .ok (.aload_n 0, 1) := by decide +kernel
theorem dX12_findWorth_86 : decode cX12_findWorth 86 = .ok (.iload_n 3, 1) := by decide +kernel
theorem dX12_findWorth_87 : decode cX12_findWorth 87 = .ok (.iload_n 2, 1) := by decide +kernel
theorem dX12_findWorth_88 : decode cX12_findWorth 88 = .ok (.iload 5, 2) := by decide +kernel
theorem dX12_findWorth_90 : decode cX12_findWorth 90 = .ok (.invokevirtual 504, 3) := by decide +kernel
theorem dX12_findWorth_93 : decode cX12_findWorth 93 = .ok (.lstore 8, 2) := by decide +kernel
theorem dX12_findWorth_95 : decode cX12_findWorth 95 = .ok (.aload_n 0, 1) := by decide +kernel
theorem dX12_findWorth_96 : decode cX12_findWorth 96 = .ok (.getfield 81, 3) := by decide +kernel
theorem dX12_findWorth_99 : decode cX12_findWorth 99 = .ok (.bipush 31, 2) := by decide +kernel
theorem dX12_findWorth_101 : decode cX12_findWorth 101 = .ok (.iload_n 2, 1) := by decide +kernel
theorem dX12_findWorth_102 : decode cX12_findWorth 102 = .ok (.imul, 1) := by decide +kernel
theorem dX12_findWorth_103 : decode cX12_findWorth 103 = .ok (.iload 5, 2) := by decide +kernel
theorem dX12_findWorth_105 : decode cX12_findWorth 105 = .ok (.iadd, 1) := by decide +kernel
theorem dX12_findWorth_106 : decode cX12_findWorth 106 = .ok (.bipush 10, 2) := by decide +kernel
theorem dX12_findWorth_108 : decode cX12_findWorth 108 = .ok (.iload 4, 2) := by decide +kernel
theorem dX12_findWorth_110 : decode cX12_findWorth 110 = .ok (.isub, 1) := by decide +kernel
theorem dX12_findWorth_111 : decode cX12_findWorth 111 = .ok (.i2l, 1) := by decide +kernel
theorem dX12_findWorth_112 : decode cX12_findWorth 112 = .ok (.lload 6, 2) := by decide +kernel
theorem dX12_findWorth_114 : decode cX12_findWorth 114 = .ok (.lmul, 1) := by decide +kernel
theorem dX12_findWorth_115 : decode cX12_findWorth 115 = .ok (.iload 4, 2) := by decide +kernel
theorem dX12_findWorth_117 : decode cX12_findWorth 117 = .ok (.i2l, 1) := by decide +kernel
theorem dX12_findWorth_118 : decode cX12_findWorth 118 = .ok (.lload 8, 2) := by decide +kernel
theorem dX12_findWorth_120 : decode cX12_findWorth 120 = .ok (.lload 6, 2) := by decide +kernel
theorem dX12_findWorth_122 : decode cX12_findWorth 122 = .ok (.lcmp, 1) := by decide +kernel
theorem dX12_findWorth_123 : decode cX12_findWorth 123 = .ok (.ifCond .le 8, 3) := by decide +kernel
theorem dX12_findWorth_126 : decode cX12_findWorth 126 = .ok (.lload 8, 2) := by decide +kernel
theorem dX12_findWorth_128 : decode cX12_findWorth 128 = .ok (.goto 5, 3) := by decide +kernel
theorem dX12_findWorth_131 : decode cX12_findWorth 131 = .ok (.lload 6, 2) := by decide +kernel
theorem dX12_findWorth_133 : decode cX12_findWorth 133 = .ok (.lmul, 1) := by decide +kernel
theorem dX12_findWorth_134 : decode cX12_findWorth 134 = .ok (.ladd, 1) := by decide +kernel
theorem dX12_findWorth_135 : decode cX12_findWorth 135 = .ok (.lastore, 1) := by decide +kernel
theorem dX12_findWorth_136 : decode cX12_findWorth 136 = .ok (.iinc 5 1, 3) := by decide +kernel
theorem dX12_findWorth_139 : decode cX12_findWorth 139 = .ok (.goto (-77), 3) := by decide +kernel
theorem dX12_findWorth_142 : decode cX12_findWorth 142 = .ok (.iinc 2 (-1), 3) := by decide +kernel
theorem dX12_findWorth_145 : decode cX12_findWorth 145 = .ok (.goto (-105), 3) := by decide +kernel
theorem dX12_findWorth_148 : decode cX12_findWorth 148 = .ok (.return_, 1) := by decide +kernel
theorem dX12_uncle_0 : decode cX12_uncle 0 = .ok (.aload_n 0, 1) := by decide +kernel
theorem dX12_uncle_1 : decode cX12_uncle 1 = .ok (.iconst 0, 1) := by decide +kernel
theorem dX12_uncle_2 : decode cX12_uncle 2 = .ok (.putfield 97, 3) := by decide +kernel
theorem dX12_uncle_5 : decode cX12_uncle 5 = .ok (.aload_n 0, 1) := by decide +kernel
theorem dX12_uncle_6 : decode cX12_uncle 6 = .ok (.iload_n 1, 1) := by decide +kernel
theorem dX12_uncle_7 : decode cX12_uncle 7 = .ok (.invokevirtual 328, 3) := by decide +kernel
theorem dX12_uncle_10 : decode cX12_uncle 10 = .ok (.ifCond .eq 10, 3) := by decide +kernel
theorem dX12_uncle_13 : decode cX12_uncle 13 = .ok (.aload_n 0, 1) := by decide +kernel
theorem dX12_uncle_14 : decode cX12_uncle 14 = .ok (.invokevirtual 492, 3) := by decide +kernel
theorem dX12_uncle_17 : decode cX12_uncle 17 = .ok (.ifCond .ne 7, 3) := by decide +kernel
theorem dX12_uncle_20 : decode cX12_uncle 20 = .ok (.ldc2_w 459, 3) := by decide +kernel
theorem dX12_uncle_23 : decode cX12_uncle 23 = .ok (.lreturn, 1) := by decide +kernel
theorem dX12_uncle_24 : decode cX12_uncle 24 = .ok (.aload_n 0, 1) := by decide +kernel
theorem dX12_uncle_25 : decode cX12_uncle 25 = .ok (.invokevirtual 508, 3) := by decide +kernel
theorem dX12_uncle_28 : decode cX12_uncle 28 = .ok (.aload_n 0, 1) := by decide +kernel
theorem dX12_uncle_29 : decode cX12_uncle 29 = .ok (.getfield 81, 3) := by decide +kernel
theorem dX12_uncle_32 : decode cX12_uncle 32 = .ok (.aload_n 0, 1) := by decide +kernel
theorem dX12_uncle_33 : decode cX12_uncle 33 = .ok (.invokevirtual 409, 3) := by decide +kernel
theorem dX12_uncle_36 : decode cX12_uncle 36 = .ok (.laload, 1) := by decide +kernel
theorem dX12_uncle_37 : decode cX12_uncle 37 = .ok (.aload_n 0, 1) := by decide +kernel
theorem dX12_uncle_38 : decode cX12_uncle 38 = .ok (.getfield 319, 3) := by decide +kernel
theorem dX12_uncle_41 : decode cX12_uncle 41 = .ok (.aload_n 0, 1) := by decide +kernel
theorem dX12_uncle_42 : decode cX12_uncle 42 = .ok (.getfield 322, 3) := by decide +kernel
theorem dX12_uncle_45 : decode cX12_uncle 45 = .ok (.imul, 1) := by decide +kernel
theorem dX12_uncle_46 : decode cX12_uncle 46 = .ok (.invokestatic 501, 3) := by decide +kernel
theorem dX12_uncle_49 : decode cX12_uncle 49 = .ok (.iload_n 2, 1) := by decide +kernel
theorem dX12_uncle_50 : decode cX12_uncle 50 = .ok (.invokestatic 455, 3) := by decide +kernel
theorem dX12_uncle_53 : decode cX12_uncle 53 = .ok (.lreturn, 1) := by decide +kernel
theorem dX12_lifts_0 : decode cX12_lifts 0 = .ok (.aload_n 0, 1) := by decide +kernel
theorem dX12_lifts_1 : decode cX12_lifts 1 = .ok (.iconst 0, 1) := by decide +kernel
theorem dX12_lifts_2 : decode cX12_lifts 2 = .ok (.putfield 97, 3) := by decide +kernel
theorem dX12_lifts_5 : decode cX12_lifts 5 = .ok (.aload_n 0, 1) := by decide +kernel
theorem dX12_lifts_6 : decode cX12_lifts 6 = .ok (.iload_n 1, 1) := by decide +kernel
theorem dX12_lifts_7 : decode cX12_lifts 7 = .ok (.invokevirtual 328, 3) := by decide +kernel
theorem dX12_lifts_10 : decode cX12_lifts 10 = .ok (.ifCond .eq 43, 3) := by decide +kernel
theorem dX12_lifts_13 : decode cX12_lifts 13 = .ok (.aload_n 0, 1) := by decide +kernel
theorem dX12_lifts_14 : decode cX12_lifts 14 = .ok (.invokevirtual 492, 3) := by decide +kernel
theorem dX12_lifts_17 : decode cX12_lifts 17 = .ok (.ifCond .eq 36, 3) := by decide +kernel
theorem dX12_lifts_20 : decode cX12_lifts 20 = .ok (.aload_n 0, 1) := by decide +kernel
theorem dX12_lifts_21 : decode cX12_lifts 21 = .ok (.iload_n 2, 1) := by decide +kernel
theorem dX12_lifts_22 : decode cX12_lifts 22 = .ok (.invokevirtual 331, 3) := by decide +kernel
theorem dX12_lifts_25 : decode cX12_lifts 25 = .ok (.ifCond .eq 28, 3) := by decide +kernel
theorem dX12_lifts_28 : decode cX12_lifts 28 = .ok (.iload_n 3, 1) := by decide +kernel
theorem dX12_lifts_29 : decode cX12_lifts 29 = .ok (.iconst 0, 1) := by decide +kernel
theorem dX12_lifts_30 : decode cX12_lifts 30 = .ok (.aload_n 0, 1) := by decide +kernel
theorem dX12_lifts_31 : decode cX12_lifts 31 = .ok (.getfield 322, 3) := by decide +kernel
theorem dX12_lifts_34 : decode cX12_lifts 34 = .ok (.iconst 1, 1) := by decide +kernel
theorem dX12_lifts_35 : decode cX12_lifts 35 = .ok (.isub, 1) := by decide +kernel
theorem dX12_lifts_36 : decode cX12_lifts 36 = .ok (.invokestatic 105, 3) := by decide +kernel
theorem dX12_lifts_39 : decode cX12_lifts 39 = .ok (.ifCond .eq 14, 3) := by decide +kernel
theorem dX12_lifts_42 : decode cX12_lifts 42 = .ok (.iload 4, 2) := by decide +kernel
theorem dX12_lifts_44 : decode cX12_lifts 44 = .ok (.iconst 1, 1) := by decide +kernel
theorem dX12_lifts_45 : decode cX12_lifts 45 = .ok (.bipush 30, 2) := by decide +kernel
theorem dX12_lifts_47 : decode cX12_lifts 47 = .ok (.invokestatic 105, 3) := by decide +kernel
theorem dX12_lifts_50 : decode cX12_lifts 50 = .ok (.ifCond .ne 5, 3) := by decide +kernel
theorem dX12_lifts_53 : decode cX12_lifts 53 = .ok (.iconst (-1), 1) := by decide +kernel
theorem dX12_lifts_54 : decode cX12_lifts 54 = .ok (.ireturn, 1) := by decide +kernel
theorem dX12_lifts_55 : decode cX12_lifts 55 = .ok (.aload_n 0, 1) := by decide +kernel
theorem dX12_lifts_56 : decode cX12_lifts 56 = .ok (.invokevirtual 508, 3) := by decide +kernel
theorem dX12_lifts_59 : decode cX12_lifts 59 = .ok (.iload_n 2, 1) := by decide +kernel
theorem dX12_lifts_60 : decode cX12_lifts 60 = .ok (.aload_n 0, 1) := by decide +kernel
theorem dX12_lifts_61 : decode cX12_lifts 61 = .ok (.getfield 322, 3) := by decide +kernel
theorem dX12_lifts_64 : decode cX12_lifts 64 = .ok (.imul, 1) := by decide +kernel
theorem dX12_lifts_65 : decode cX12_lifts 65 = .ok (.iload_n 3, 1) := by decide +kernel
theorem dX12_lifts_66 : decode cX12_lifts 66 = .ok (.iadd, 1) := by decide +kernel
