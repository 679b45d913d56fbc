theorem dX12_lifts_67 : decode cX12_lifts 67 = .ok (.istore 5, 2) := by decide +kernel
theorem dX12_lifts_69 : decode cX12_lifts 69 = .ok (.aload_n 0, 1) := by decide +kernel
theorem dX12_lifts_70 : decode cX12_lifts 70 = .ok (.getfield 81, 3) := by decide +kernel
theorem dX12_lifts_73 : decode cX12_lifts 73 = .ok (.bipush 31, 2) := by decide +kernel
theorem dX12_lifts_75 : decode cX12_lifts 75 = .ok (.iload 5, 2) := by decide +kernel
theorem dX12_lifts_77 : decode cX12_lifts 77 = .ok (.iconst 1, 1) := by decide +kernel
theorem dX12_lifts_78 : decode cX12_lifts 78 = .ok (.iadd, 1) := by decide +kernel
theorem dX12_lifts_79 : decode cX12_lifts 79 = .ok (.imul, 1) := by decide +kernel
theorem dX12_lifts_80 : decode cX12_lifts 80 = .ok (.iload 4, 2) := by decide +kernel
theorem dX12_lifts_82 : decode cX12_lifts 82 = .ok (.iadd, 1) := by decide +kernel
theorem dX12_lifts_83 : decode cX12_lifts 83 = .ok (.laload, 1) := by decide +kernel
theorem dX12_lifts_84 : decode cX12_lifts 84 = .ok (.aload_n 0, 1) := by decide +kernel
theorem dX12_lifts_85 : decode cX12_lifts 85 = .ok (.iload_n 2, 1) := by decide +kernel
theorem dX12_lifts_86 : decode cX12_lifts 86 = .ok (.iload 5, 2) := by decide +kernel
theorem dX12_lifts_88 : decode cX12_lifts 88 = .ok (.iload 4, 2) := by decide +kernel
theorem dX12_lifts_90 : decode cX12_lifts 90 = .ok (.invokevirtual 504, 3) := by decide +kernel
theorem dX12_lifts_93 : decode cX12_lifts 93 = .ok (.lcmp, 1) := by decide +kernel
theorem dX12_lifts_94 : decode cX12_lifts 94 = .ok (.ifCond .le 7, 3) := by decide +kernel
theorem dX12_lifts_97 : decode cX12_lifts 97 = .ok (.iconst 1, 1) := by decide +kernel
theorem dX12_lifts_98 : decode cX12_lifts 98 = .ok (.goto 4, 3) := by decide +kernel
theorem dX12_lifts_101 : decode cX12_lifts 101 = .ok (.iconst 0, 1) := by decide +kernel
theorem dX12_lifts_102 : decode cX12_lifts 102 = .ok (.ireturn, 1) := by decide +kernel
theorem dX12_nextOrder_0 : decode cX12_nextOrder 0 = .ok (.aload_n 0, 1) := by decide +kernel
theorem dX12_nextOrder_1 : decode cX12_nextOrder 1 = .ok (.getfield 319, 3) := by decide +kernel
theorem dX12_nextOrder_4 : decode cX12_nextOrder 4 = .ok (.iconst 2, 1) := by decide +kernel
theorem dX12_nextOrder_5 : decode cX12_nextOrder 5 = .ok (.isub, 1) := by decide +kernel
theorem dX12_nextOrder_6 : decode cX12_nextOrder 6 = .ok (.istore_n 1, 1) := by decide +kernel
theorem dX12_nextOrder_7 : decode cX12_nextOrder 7 = .ok (.iload_n 1, 1) := by decide +kernel
theorem dX12_nextOrder_8 : decode cX12_nextOrder 8 = .ok (.ifCond .lt 26, 3) := by decide +kernel
theorem dX12_nextOrder_11 : decode cX12_nextOrder 11 = .ok (.aload_n 0, 1) := by decide +kernel
theorem dX12_nextOrder_12 : decode cX12_nextOrder 12 = .ok (.getfield 78, 3) := by decide +kernel
theorem dX12_nextOrder_15 : decode cX12_nextOrder 15 = .ok (.iload_n 1, 1) := by decide +kernel
theorem dX12_nextOrder_16 : decode cX12_nextOrder 16 = .ok (.iaload, 1) := by decide +kernel
theorem dX12_nextOrder_17 : decode cX12_nextOrder 17 = .ok (.aload_n 0, 1) := by decide +kernel
theorem dX12_nextOrder_18 : decode cX12_nextOrder 18 = .ok (.getfield 78, 3) := by decide +kernel
theorem dX12_nextOrder_21 : decode cX12_nextOrder 21 = .ok (.iload_n 1, 1) := by decide +kernel
theorem dX12_nextOrder_22 : decode cX12_nextOrder 22 = .ok (.iconst 1, 1) := by decide +kernel
theorem dX12_nextOrder_23 : decode cX12_nextOrder 23 = .ok (.iadd, 1) := by decide +kernel
theorem dX12_nextOrder_24 : decode cX12_nextOrder 24 = .ok (.iaload, 1) := by decide +kernel
theorem dX12_nextOrder_25 : decode cX12_nextOrder 25 = .ok (.if_icmp .le 9, 3) := by decide +kernel
theorem dX12_nextOrder_28 : decode cX12_nextOrder 28 = .ok (.iinc 1 (-1), 3) := by decide +kernel
theorem dX12_nextOrder_31 : decode cX12_nextOrder 31 = .ok (.goto (-24), 3) := by decide +kernel
theorem dX12_nextOrder_34 : decode cX12_nextOrder 34 = .ok (.iload_n 1, 1) := by decide +kernel
theorem dX12_nextOrder_35 : decode cX12_nextOrder 35 = .ok (.ifCond .ge 5, 3) := by decide +kernel
theorem dX12_nextOrder_38 : decode cX12_nextOrder 38 = .ok (.iconst 0, 1) := by decide +kernel
theorem dX12_nextOrder_39 : decode cX12_nextOrder 39 = .ok (.ireturn, 1) := by decide +kernel
theorem dX12_nextOrder_40 : decode cX12_nextOrder 40 = .ok (.aload_n 0, 1) := by decide +kernel
theorem dX12_nextOrder_41 : decode cX12_nextOrder 41 = .ok (.getfield 319, 3) := by decide +kernel
theorem dX12_nextOrder_44 : decode cX12_nextOrder 44 = .ok (.iconst 1, 1) := by decide +kernel
theorem dX12_nextOrder_45 : decode cX12_nextOrder 45 = .ok (.isub, 1) := by decide +kernel
theorem dX12_nextOrder_46 : decode cX12_nextOrder 46 = .ok (.istore_n 2, 1) := by decide +kernel
theorem dX12_nextOrder_47 : decode cX12_nextOrder 47 = .ok (.aload_n 0, 1) := by decide +kernel
theorem dX12_nextOrder_48 : decode cX12_nextOrder 48 = .ok (.getfield 78, 3) := by decide +kernel
theorem dX12_nextOrder_51 : decode cX12_nextOrder 51 = .ok (.iload_n 2, 1) := by decide +kernel
theorem dX12_nextOrder_52 : decode cX12_nextOrder 52 = .ok (.iaload, 1) := by decide +kernel
theorem dX12_nextOrder_53 : decode cX12_nextOrder 53 = .ok (.aload_n 0, 1) := by decide +kernel
theorem dX12_nextOrder_54 : decode cX12_nextOrder 54 = .ok (.getfield 78, 3) := by decide +kernel
theorem dX12_nextOrder_57 : decode cX12_nextOrder 57 = .ok (.iload_n 1, 1) := by decide +kernel
theorem dX12_nextOrder_58 : decode cX12_nextOrder 58 = .ok (.iaload, 1) := by decide +kernel
theorem dX12_nextOrder_59 : decode cX12_nextOrder 59 = .ok (.if_icmp .ge 9, 3) := by decide +kernel
theorem dX12_nextOrder_62 : decode cX12_nextOrder 62 = .ok (.iinc 2 (-1), 3) := by decide +kernel
theorem dX12_nextOrder_65 : decode cX12_nextOrder 65 = .ok (.goto (-18), 3) := by decide +kernel
theorem dX12_nextOrder_68 : decode cX12_nextOrder 68 = .ok (.aload_n 0, 1) := by decide +kernel
theorem dX12_nextOrder_69 : decode cX12_nextOrder 69 = .ok (.iload_n 1, 1) := by decide +kernel
theorem dX12_nextOrder_70 : decode cX12_nextOrder 70 = .ok (.iload_n 2, 1) := by decide +kernel
theorem dX12_nextOrder_71 : decode cX12_nextOrder 71 = .ok (.invokevirtual 511, 3) := by decide +kernel
theorem dX12_nextOrder_74 : decode cX12_nextOrder 74 = .ok (.iload_n 1, 1) := by decide +kernel
theorem dX12_nextOrder_75 : decode cX12_nextOrder 75 = .ok (.iconst 1, 1) := by decide +kernel
theorem dX12_nextOrder_76 : decode cX12_nextOrder 76 = .ok (.iadd, 1) := by decide +kernel
theorem dX12_nextOrder_77 : decode cX12_nextOrder 77 = .ok (.istore_n 3, 1) := by decide +kernel
theorem dX12_nextOrder_78 : decode cX12_nextOrder 78 = .ok (.aload_n 0, 1) := by decide +kernel
theorem dX12_nextOrder_79 : decode cX12_nextOrder 79 = .ok (.getfield 319, 3) := by decide +kernel
theorem dX12_nextOrder_82 : decode cX12_nextOrder 82 = .ok (.iconst 1, 1) := by decide +kernel
theorem dX12_nextOrder_83 : decode cX12_nextOrder 83 = .ok (.isub, 1) := by decide +kernel
theorem dX12_nextOrder_84 : decode cX12_nextOrder 84 = .ok (.istore 4, 2) := by decide +kernel
theorem dX12_nextOrder_86 : decode cX12_nextOrder 86 = .ok (.iload_n 3, 1) := by decide +kernel
theorem dX12_nextOrder_87 : decode cX12_nextOrder 87 = .ok (.iload 4, 2) := by decide +kernel
theorem dX12_nextOrder_89 : decode cX12_nextOrder 89 = .ok (.if_icmp .ge 19, 3) := by decide +kernel
theorem dX12_nextOrder_92 : decode cX12_nextOrder 92 = .ok (.aload_n 0, 1) := by decide +kernel
theorem dX12_nextOrder_93 : decode cX12_nextOrder 93 = .ok (.iload_n 3, 1) := by decide +kernel
theorem dX12_nextOrder_94 : decode cX12_nextOrder 94 = .ok (.iload 4, 2) := by decide +kernel
theorem dX12_nextOrder_96 : decode cX12_nextOrder 96 = .ok (.invokevirtual 511, 3) := by decide +kernel
theorem dX12_nextOrder_99 : decode cX12_nextOrder 99 = .ok (.iinc 3 1, 3) := by decide +kernel
theorem dX12_nextOrder_102 : decode cX12_nextOrder 102 = .ok (.iinc 4 (-1), 3) := by decide +kernel
theorem dX12_nextOrder_105 : decode cX12_nextOrder 105 = .ok (.goto (-19), 3) := by decide +kernel
theorem dX12_nextOrder_108 : decode cX12_nextOrder 108 = .ok (.iconst 1, 1) := by decide +kernel
theorem dX12_nextOrder_109 : decode cX12_nextOrder 109 = .ok (.ireturn, 1) := by decide +kernel
theorem dX12_turn_0 : decode cX12_turn 0 = .ok (.aload_n 0, 1) := by decide +kernel
theorem dX12_turn_1 : decode cX12_turn 1 = .ok (.getfield 78, 3) := by decide +kernel
theorem dX12_turn_4 : decode cX12_turn 4 = .ok (.iload_n 1, 1) := by decide +kernel
theorem dX12_turn_5 : decode cX12_turn 5 = .ok (.iaload, 1) := by decide +kernel
theorem dX12_turn_6 : decode cX12_turn 6 = .ok (.istore_n 3, 1) := by decide +kernel
theorem dX12_turn_7 : decode cX12_turn 7 = .ok (.aload_n 0, 1) := by decide +kernel
theorem dX12_turn_8 : decode cX12_turn 8 = .ok (.getfield 78, 3) := by decide +kernel
theorem dX12_turn_11 : decode cX12_turn 11 = .ok (.iload_n 1, 1) := by decide +kernel
theorem dX12_turn_12 : decode cX12_turn 12 = .ok (.aload_n 0, 1) := by decide +kernel
theorem dX12_turn_13 : decode cX12_turn 13 = .ok (.getfield 78, 3) := by decide +kernel
theorem dX12_turn_16 : decode cX12_turn 16 = .ok (.iload_n 2, 1) := by decide +kernel
theorem dX12_turn_17 : decode cX12_turn 17 = .ok (.iaload, 1) := by decide +kernel
theorem dX12_turn_18 : decode cX12_turn 18 = .ok (.iastore, 1) := by decide +kernel
theorem dX12_turn_19 : decode cX12_turn 19 = .ok (.aload_n 0, 1) := by decide +kernel
theorem dX12_turn_20 : decode cX12_turn 20 = .ok (.getfield 78, 3) := by decide +kernel
theorem dX12_turn_23 : decode cX12_turn 23 = .ok (.iload_n 2, 1) := by decide +kernel
theorem dX12_turn_24 : decode cX12_turn 24 = .ok (.iload_n 3, 1) := by decide +kernel
theorem dX12_turn_25 : decode cX12_turn 25 = .ok (.iastore, 1) := by decide +kernel
theorem dX12_turn_26 : decode cX12_turn 26 = .ok (.return_, 1) := by decide +kernel
theorem dX12_orderNow_0 : decode cX12_orderNow 0 = .ok (.iconst 0, 1) := by decide +kernel
theorem dX12_orderNow_1 : decode cX12_orderNow 1 = .ok (.istore_n 1, 1) := by decide +kernel
theorem dX12_orderNow_2 : decode cX12_orderNow 2 = .ok (.iconst 0, 1) := by decide +kernel
theorem dX12_orderNow_3 : decode cX12_orderNow 3 = .ok (.istore_n 2, 1) := by decide +kernel
theorem dX12_orderNow_4 : decode cX12_orderNow 4 = .ok (.iload_n 2, 1) := by decide +kernel
theorem dX12_orderNow_5 : decode cX12_orderNow 5 = .ok (.aload_n 0, 1) := by decide +kernel
theorem dX12_orderNow_6 : decode cX12_orderNow 6 = .ok (.getfield 319, 3) := by decide +kernel
theorem dX12_orderNow_9 : decode cX12_orderNow 9 = .ok (.if_icmp .ge 20, 3) := by decide +kernel
theorem dX12_orderNow_12 : decode cX12_orderNow 12 = .ok (.iload_n 1, 1) := by decide +kernel
theorem dX12_orderNow_13 : decode cX12_orderNow 13 = .ok (.iconst 3, 1) := by decide +kernel
theorem dX12_orderNow_14 : decode cX12_orderNow 14 = .ok (.ishl, 1) := by decide +kernel
theorem dX12_orderNow_15 : decode cX12_orderNow 15 = .ok (.aload_n 0, 1) := by decide +kernel
theorem dX12_orderNow_16 : decode cX12_orderNow 16 = .ok (.getfield 78, 3) := by decide +kernel
theorem dX12_orderNow_19 : decode cX12_orderNow 19 = .ok (.iload_n 2, 1) := by decide +kernel
theorem dX12_orderNow_20 : decode cX12_orderNow 20 = .ok (.iaload, 1) := by decide +kernel
theorem dX12_orderNow_21 : decode cX12_orderNow 21 = .ok (.ior, 1) := by decide +kernel
theorem dX12_orderNow_22 : decode cX12_orderNow 22 = .ok (.istore_n 1, 1) := by decide +kernel
theorem dX12_orderNow_23 : decode cX12_orderNow 23 = .ok (.iinc 2 1, 3) := by decide +kernel
theorem dX12_orderNow_26 : decode cX12_orderNow 26 = .ok (.goto (-22), 3) := by decide +kernel
theorem dX12_orderNow_29 : decode cX12_orderNow 29 = .ok (.iload_n 1, 1) := by decide +kernel
theorem dX12_orderNow_30 : decode cX12_orderNow 30 = .ok (.ireturn, 1) := by decide +kernel
theorem dX12_uneven_0 : decode cX12_uneven 0 = .ok (.aload_n 0, 1) := by decide +kernel
theorem dX12_uneven_1 : decode cX12_uneven 1 = .ok (.getfield 75, 3) := by decide +kernel
theorem dX12_uneven_4 : decode cX12_uneven 4 = .ok (.iconst 0, 1) := by decide +kernel
theorem dX12_uneven_5 : decode cX12_uneven 5 = .ok (.laload, 1) := by decide +kernel
theorem dX12_uneven_6 : decode cX12_uneven 6 = .ok (.lstore_n 1, 1) := by decide +kernel
theorem dX12_uneven_7 : decode cX12_uneven 7 = .ok (.aload_n 0, 1) := by decide +kernel
theorem dX12_uneven_8 : decode cX12_uneven 8 = .ok (.getfield 75, 3) := by decide +kernel
theorem dX12_uneven_11 : decode cX12_uneven 11 = .ok (.iconst 0, 1) := by decide +kernel
theorem dX12_uneven_12 : decode cX12_uneven 12 = .ok (.laload, 1) := by decide +kernel
theorem dX12_uneven_13 : decode cX12_uneven 13 = .ok (.lstore_n 3, 1) := by decide +kernel
theorem dX12_uneven_14 : decode cX12_uneven 14 = .ok (.iconst 1, 1) := by decide +kernel
theorem dX12_uneven_15 : decode cX12_uneven 15 = .ok (.istore 5, 2) := by decide +kernel
theorem dX12_uneven_17 : decode cX12_uneven 17 = .ok (.iload 5, 2) := by decide +kernel
theorem dX12_uneven_19 : decode cX12_uneven 19 = .ok (.aload_n 0, 1) := by decide +kernel
theorem dX12_uneven_20 : decode cX12_uneven 20 = .ok (.getfield 319, 3) := by decide +kernel
theorem dX12_uneven_23 : decode cX12_uneven 23 = .ok (.if_icmp .ge 57, 3) := by decide +kernel
theorem dX12_uneven_26 : decode cX12_uneven 26 = .ok (.aload_n 0, 1) := by decide +kernel
theorem dX12_uneven_27 : decode cX12_uneven 27 = .ok (.getfield 75, 3) := by decide +kernel
theorem dX12_uneven_30 : decode cX12_uneven 30 = .ok (.iload 5, 2) := by decide +kernel
theorem dX12_uneven_32 : decode cX12_uneven 32 = .ok (.laload, 1) := by decide +kernel
theorem dX12_uneven_33 : decode cX12_uneven 33 = .ok (.lload_n 1, 1) := by decide +kernel
theorem dX12_uneven_34 : decode cX12_uneven 34 = .ok (.lcmp, 1) := by decide +kernel
theorem dX12_uneven_35 : decode cX12_uneven 35 = .ok (.ifCond .ge 13, 3) := by decide +kernel
theorem dX12_uneven_38 : decode cX12_uneven 38 = .ok (.aload_n 0, 1) := by decide +kernel
theorem dX12_uneven_39 : decode cX12_uneven 39 = .ok (.getfield 75, 3) := by decide +kernel
theorem dX12_uneven_42 : decode cX12_uneven 42 = .ok (.iload 5, 2) := by decide +kernel
theorem dX12_uneven_44 : decode cX12_uneven 44 = .ok (.laload, 1) := by decide +kernel
theorem dX12_uneven_45 : decode cX12_uneven 45 = .ok (.goto 4, 3) := by decide +kernel
theorem dX12_uneven_48 : decode cX12_uneven 48 = .ok (.lload_n 1, 1) := by decide +kernel
theorem dX12_uneven_49 : decode cX12_uneven 49 = .ok (.lstore_n 1, 1) := by decide +kernel
theorem dX12_uneven_50 : decode cX12_uneven 50 = .ok (.aload_n 0, 1) := by decide +kernel
theorem dX12_uneven_51 : decode cX12_uneven 51 = .ok (.getfield 75, 3) := by decide +kernel
theorem dX12_uneven_54 : decode cX12_uneven 54 = .ok (.iload 5, 2) := by decide +kernel
theorem dX12_uneven_56 : decode cX12_uneven 56 = .ok (.laload, 1) := by decide +kernel
theorem dX12_uneven_57 : decode cX12_uneven 57 = .ok (.lload_n 3, 1) := by decide +kernel
theorem dX12_uneven_58 : decode cX12_uneven 58 = .ok (.lcmp, 1) := by decide +kernel
theorem dX12_uneven_59 : decode cX12_uneven 59 = .ok (.ifCond .le 13, 3) := by decide +kernel
theorem dX12_uneven_62 : decode cX12_uneven 62 = .ok (.aload_n 0, 1) := by decide +kernel
theorem dX12_uneven_63 : decode cX12_uneven 63 = .ok (.getfield 75, 3) := by decide +kernel
theorem dX12_uneven_66 : decode cX12_uneven 66 = .ok (.iload 5, 2) := by decide +kernel
theorem dX12_uneven_68 : decode cX12_uneven 68 = .ok (.laload, 1) := by decide +kernel
theorem dX12_uneven_69 : decode cX12_uneven 69 = .ok (.goto 4, 3) := by decide +kernel
theorem dX12_uneven_72 : decode cX12_uneven 72 = .ok (.lload_n 3, 1) := by decide +kernel
theorem dX12_uneven_73 : decode cX12_uneven 73 = .ok (.lstore_n 3, 1) := by decide +kernel
theorem dX12_uneven_74 : decode cX12_uneven 74 = .ok (.iinc 5 1, 3) := by decide +kernel
theorem dX12_uneven_77 : decode cX12_uneven 77 = .ok (.goto (-60), 3) := by decide +kernel
theorem dX12_uneven_80 : decode cX12_uneven 80 = .ok (.lload_n 3, 1) := by decide +kernel
theorem dX12_uneven_81 : decode cX12_uneven 81 = .ok (.lload_n 1, 1) := by decide +kernel
theorem dX12_uneven_82 : decode cX12_uneven 82 = .ok (.lsub, 1) := by decide +kernel
theorem dX12_uneven_83 : decode cX12_uneven 83 = .ok (.lreturn, 1) := by decide +kernel
theorem dX12_fair_0 : decode cX12_fair 0 = .ok (.aload_n 0, 1) := by decide +kernel
theorem dX12_fair_1 : decode cX12_fair 1 = .ok (.iconst 0, 1) := by decide +kernel
theorem dX12_fair_2 : decode cX12_fair 2 = .ok (.putfield 97, 3) := by decide +kernel
theorem dX12_fair_5 : decode cX12_fair 5 = .ok (.aload_n 0, 1) := by decide +kernel
theorem dX12_fair_6 : decode cX12_fair 6 = .ok (.iload_n 1, 1) := by decide +kernel
theorem dX12_fair_7 : decode cX12_fair 7 = .ok (.invokevirtual 328, 3) := by decide +kernel
theorem dX12_fair_10 : decode cX12_fair 10 = .ok (.ifCond .eq 18, 3) := by decide +kernel
theorem dX12_fair_13 : decode cX12_fair 13 = .ok (.aload_n 0, 1) := by decide +kernel
theorem dX12_fair_14 : decode cX12_fair 14 = .ok (.getfield 319, 3) := by decide +kernel
theorem dX12_fair_17 : decode cX12_fair 17 = .ok (.iconst 5, 1) := by decide +kernel
theorem dX12_fair_18 : decode cX12_fair 18 = .ok (.if_icmp .gt 10, 3) := by decide +kernel
theorem dX12_fair_21 : decode cX12_fair 21 = .ok (.aload_n 0, 1) := by decide +kernel
theorem dX12_fair_22 : decode cX12_fair 22 = .ok (.invokevirtual 492, 3) := by decide +kernel
theorem dX12_fair_25 : decode cX12_fair 25 = .ok (.ifCond .ne 5, 3) := by decide +kernel
theorem dX12_fair_28 : decode cX12_fair 28 = .ok (.iconst (-1), 1) := by decide +kernel
theorem dX12_fair_29 : decode cX12_fair 29 = .ok (.ireturn, 1) := by decide +kernel
theorem dX12_fair_30 : decode cX12_fair 30 = .ok (.aload_n 0, 1) := by decide +kernel
theorem dX12_fair_31 : decode cX12_fair 31 = .ok (.invokevirtual 464, 3) := by decide +kernel
theorem dX12_fair_34 : decode cX12_fair 34 = .ok (.iconst (-1), 1) := by decide +kernel
theorem dX12_fair_35 : decode cX12_fair 35 = .ok (.istore_n 2, 1) := by decide +kernel
theorem dX12_fair_36 : decode cX12_fair 36 = .ok (.lconst 0, 1) := by decide +kernel
theorem dX12_fair_37 : decode cX12_fair 37 = .ok (.lstore_n 3, 1) := by decide +kernel
theorem dX12_fair_38 : decode cX12_fair 38 = .ok (.iconst 1, 1) := by decide +kernel
theorem dX12_fair_39 : decode cX12_fair 39 = .ok (.istore 5, 2) := by decide +kernel
theorem dX12_fair_41 : decode cX12_fair 41 = .ok (.iload 5, 2) := by decide +kernel
theorem dX12_fair_43 : decode cX12_fair 43 = .ok (.ifCond .eq 41, 3) := by decide +kernel
theorem dX12_fair_46 : decode cX12_fair 46 = .ok (.aload_n 0, 1) := by decide +kernel
theorem dX12_fair_47 : decode cX12_fair 47 = .ok (.iconst 1, 1) := by decide +kernel
theorem dX12_fair_48 : decode cX12_fair 48 = .ok (.invokevirtual 498, 3) := by decide +kernel
theorem dX12_fair_51 : decode cX12_fair 51 = .ok (.iload_n 2, 1) := by decide +kernel
theorem dX12_fair_52 : decode cX12_fair 52 = .ok (.iconst (-1), 1) := by decide +kernel
theorem dX12_fair_53 : decode cX12_fair 53 = .ok (.if_icmp .eq 12, 3) := by decide +kernel
theorem dX12_fair_56 : decode cX12_fair 56 = .ok (.aload_n 0, 1) := by decide +kernel
theorem dX12_fair_57 : decode cX12_fair 57 = .ok (.invokevirtual 514, 3) := by decide +kernel
theorem dX12_fair_60 : decode cX12_fair 60 = .ok (.lload_n 3, 1) := by decide +kernel
theorem dX12_fair_61 : decode cX12_fair 61 = .ok (.lcmp, 1) := by decide +kernel
theorem dX12_fair_62 : decode cX12_fair 62 = .ok (.ifCond .ge 13, 3) := by decide +kernel
theorem dX12_fair_65 : decode cX12_fair 65 = .ok (.aload_n 0, 1) := by decide +kernel
theorem dX12_fair_66 : decode cX12_fair 66 = .ok (.invokevirtual 518, 3) := by decide +kernel
theorem dX12_fair_69 : decode cX12_fair 69 = .ok (.istore_n 2, 1) := by decide +kernel
theorem dX12_fair_70 : decode cX12_fair 70 = .ok (.aload_n 0, 1) := by decide +kernel
theorem dX12_fair_71 : decode cX12_fair 71 = .ok (.invokevirtual 514, 3) := by decide +kernel
theorem dX12_fair_74 : decode cX12_fair 74 = .ok (.lstore_n 3, 1) := by decide +kernel
theorem dX12_fair_75 : decode cX12_fair 75 = .ok (.aload_n 0, 1) := by decide +kernel
theorem dX12_fair_76 : decode cX12_fair 76 = .ok (.invokevirtual 521, 3) := by decide +kernel
theorem dX12_fair_79 : decode cX12_fair 79 = .ok (.istore 5, 2) := by decide +kernel
theorem dX12_fair_81 : decode cX12_fair 81 = .ok (.goto (-40), 3) := by decide +kernel
theorem dX12_fair_84 : decode cX12_fair 84 = .ok (.iload_n 2, 1) := by decide +kernel
theorem dX12_fair_85 : decode cX12_fair 85 = .ok (.ireturn, 1) := by decide +kernel
theorem dX12_thick_0 : decode cX12_thick 0 = .ok (.aload_n 0, 1) := by decide +kernel
theorem dX12_thick_1 : decode cX12_thick 1 = .ok (.iconst 0, 1) := by decide +kernel
theorem dX12_thick_2 : decode cX12_thick 2 = .ok (.putfield 97, 3) := by decide +kernel
theorem dX12_thick_5 : decode cX12_thick 5 = .ok (.aload_n 0, 1) := by decide +kernel
theorem dX12_thick_6 : decode cX12_thick 6 = .ok (.iload_n 1, 1) := by decide +kernel
theorem dX12_thick_7 : decode cX12_thick 7 = .ok (.invokevirtual 328, 3) := by decide +kernel
theorem dX12_thick_10 : decode cX12_thick 10 = .ok (.ifCond .eq 10, 3) := by decide +kernel
theorem dX12_thick_13 : decode cX12_thick 13 = .ok (.aload_n 0, 1) := by decide +kernel
theorem dX12_thick_14 : decode cX12_thick 14 = .ok (.invokevirtual 492, 3) := by decide +kernel
theorem dX12_thick_17 : decode cX12_thick 17 = .ok (.ifCond .ne 5, 3) := by decide +kernel
theorem dX12_thick_20 : decode cX12_thick 20 = .ok (.iconst (-1), 1) := by decide +kernel
theorem dX12_thick_21 : decode cX12_thick 21 = .ok (.ireturn, 1) := by decide +kernel
theorem dX12_thick_22 : decode cX12_thick 22 = .ok (.aload_n 0, 1) := by decide +kernel
theorem dX12_thick_23 : decode cX12_thick 23 = .ok (.invokevirtual 464, 3) := by decide +kernel
theorem dX12_thick_26 : decode cX12_thick 26 = .ok (.iconst 1, 1) := by decide +kernel
theorem dX12_thick_27 : decode cX12_thick 27 = .ok (.istore_n 2, 1) := by decide +kernel
theorem dX12_thick_28 : decode cX12_thick 28 = .ok (.ldc2_w 459, 3) := by decide +kernel
theorem dX12_thick_31 : decode cX12_thick 31 = .ok (.lstore_n 3, 1) := by decide +kernel
theorem dX12_thick_32 : decode cX12_thick 32 = .ok (.iconst 1, 1) := by decide +kernel
theorem dX12_thick_33 : decode cX12_thick 33 = .ok (.istore 5, 2) := by decide +kernel
theorem dX12_thick_35 : decode cX12_thick 35 = .ok (.iload 5, 2) := by decide +kernel
theorem dX12_thick_37 : decode cX12_thick 37 = .ok (.bipush 9, 2) := by decide +kernel
theorem dX12_thick_39 : decode cX12_thick 39 = .ok (.if_icmp .gt 49, 3) := by decide +kernel
theorem dX12_thick_42 : decode cX12_thick 42 = .ok (.aload_n 0, 1) := by decide +kernel
theorem dX12_thick_43 : decode cX12_thick 43 = .ok (.iload 5, 2) := by decide +kernel
theorem dX12_thick_45 : decode cX12_thick 45 = .ok (.invokevirtual 498, 3) := by decide +kernel
theorem dX12_thick_48 : decode cX12_thick 48 = .ok (.aload_n 0, 1) := by decide +kernel
theorem dX12_thick_49 : decode cX12_thick 49 = .ok (.getfield 473, 3) := by decide +kernel
theorem dX12_thick_52 : decode cX12_thick 52 = .ok (.lload_n 3, 1) := by decide +kernel
theorem dX12_thick_53 : decode cX12_thick 53 = .ok (.lcmp, 1) := by decide +kernel
theorem dX12_thick_54 : decode cX12_thick 54 = .ok (.ifCond .le 8, 3) := by decide +kernel
theorem dX12_thick_57 : decode cX12_thick 57 = .ok (.iload 5, 2) := by decide +kernel
theorem dX12_thick_59 : decode cX12_thick 59 = .ok (.goto 4, 3) := by decide +kernel
theorem dX12_thick_62 : decode cX12_thick 62 = .ok (.iload_n 2, 1) := by decide +kernel
theorem dX12_thick_63 : decode cX12_thick 63 = .ok (.istore_n 2, 1) := by decide +kernel
theorem dX12_thick_64 : decode cX12_thick 64 = .ok (.aload_n 0, 1) := by decide +kernel
theorem dX12_thick_65 : decode cX12_thick 65 = .ok (.getfield 473, 3) := by decide +kernel
theorem dX12_thick_68 : decode cX12_thick 68 = .ok (.lload_n 3, 1) := by decide +kernel
theorem dX12_thick_69 : decode cX12_thick 69 = .ok (.lcmp, 1) := by decide +kernel
theorem dX12_thick_70 : decode cX12_thick 70 = .ok (.ifCond .le 10, 3) := by decide +kernel
theorem dX12_thick_73 : decode cX12_thick 73 = .ok (.aload_n 0, 1) := by decide +kernel
theorem dX12_thick_74 : decode cX12_thick 74 = .ok (.getfield 473, 3) := by decide +kernel
theorem dX12_thick_77 : decode cX12_thick 77 = .ok (.goto 4, 3) := by decide +kernel
theorem dX12_thick_80 : decode cX12_thick 80 = .ok (.lload_n 3, 1) := by decide +kernel
theorem dX12_thick_81 : decode cX12_thick 81 = .ok (.lstore_n 3, 1) := by decide +kernel
theorem dX12_thick_82 : decode cX12_thick 82 = .ok (.iinc 5 1, 3) := by decide +kernel
theorem dX12_thick_85 : decode cX12_thick 85 = .ok (.goto (-50), 3) := by decide +kernel
theorem dX12_thick_88 : decode cX12_thick 88 = .ok (.iload_n 2, 1) := by decide +kernel
theorem dX12_thick_89 : decode cX12_thick 89 = .ok (.ireturn, 1) := by decide +kernel
theorem dX12_ringOf_0 : decode cX12_ringOf 0 = .ok (.iload_n 0, 1) := by decide +kernel
theorem dX12_ringOf_1 : decode cX12_ringOf 1 = .ok (.bipush 12, 2) := by decide +kernel
theorem dX12_ringOf_3 : decode cX12_ringOf 3 = .ok (.invokestatic 524, 3) := by decide +kernel
theorem dX12_ringOf_6 : decode cX12_ringOf 6 = .ok (.ireturn, 1) := by decide +kernel
theorem dX12_stepsTo_0 : decode cX12_stepsTo 0 = .ok (.iload_n 0, 1) := by decide +kernel
theorem dX12_stepsTo_1 : decode cX12_stepsTo 1 = .ok (.iconst 5, 1) := by decide +kernel
theorem dX12_stepsTo_2 : decode cX12_stepsTo 2 = .ok (.idiv, 1) := by decide +kernel
theorem dX12_stepsTo_3 : decode cX12_stepsTo 3 = .ok (.iload_n 1, 1) := by decide +kernel
theorem dX12_stepsTo_4 : decode cX12_stepsTo 4 = .ok (.iconst 5, 1) := by decide +kernel
theorem dX12_stepsTo_5 : decode cX12_stepsTo 5 = .ok (.idiv, 1) := by decide +kernel
theorem dX12_stepsTo_6 : decode cX12_stepsTo 6 = .ok (.isub, 1) := by decide +kernel
theorem dX12_stepsTo_7 : decode cX12_stepsTo 7 = .ok (.invokestatic 379, 3) := by decide +kernel
theorem dX12_stepsTo_10 : decode cX12_stepsTo 10 = .ok (.iload_n 0, 1) := by decide +kernel
theorem dX12_stepsTo_11 : decode cX12_stepsTo 11 = .ok (.iconst 5, 1) := by decide +kernel
theorem dX12_stepsTo_12 : decode cX12_stepsTo 12 = .ok (.irem, 1) := by decide +kernel
theorem dX12_stepsTo_13 : decode cX12_stepsTo 13 = .ok (.iload_n 1, 1) := by decide +kernel
theorem dX12_stepsTo_14 : decode cX12_stepsTo 14 = .ok (.iconst 5, 1) := by decide +kernel
theorem dX12_stepsTo_15 : decode cX12_stepsTo 15 = .ok (.irem, 1) := by decide +kernel
theorem dX12_stepsTo_16 : decode cX12_stepsTo 16 = .ok (.isub, 1) := by decide +kernel
theorem dX12_stepsTo_17 : decode cX12_stepsTo 17 = .ok (.invokestatic 379, 3) := by decide +kernel
theorem dX12_stepsTo_20 : decode cX12_stepsTo 20 = .ok (.invokestatic 167, 3) := by decide +kernel
theorem dX12_stepsTo_23 : decode cX12_stepsTo 23 = .ok (.ireturn, 1) := by decide +kernel
theorem dX12_sideOf_0 : decode cX12_sideOf 0 = .ok (.iconst 2, 1) := by decide +kernel
theorem dX12_sideOf_1 : decode cX12_sideOf 1 = .ok (.iload_n 0, 1) := by decide +kernel
theorem dX12_sideOf_2 : decode cX12_sideOf 2 = .ok (.iconst 5, 1) := by decide +kernel
theorem dX12_sideOf_3 : decode cX12_sideOf 3 = .ok (.idiv, 1) := by decide +kernel
theorem dX12_sideOf_4 : decode cX12_sideOf 4 = .ok (.isub, 1) := by decide +kernel
theorem dX12_sideOf_5 : decode cX12_sideOf 5 = .ok (.istore_n 1, 1) := by decide +kernel
theorem dX12_sideOf_6 : decode cX12_sideOf 6 = .ok (.iload_n 0, 1) := by decide +kernel
theorem dX12_sideOf_7 : decode cX12_sideOf 7 = .ok (.iconst 5, 1) := by decide +kernel
theorem dX12_sideOf_8 : decode cX12_sideOf 8 = .ok (.irem, 1) := by decide +kernel
theorem dX12_sideOf_9 : decode cX12_sideOf 9 = .ok (.iconst 2, 1) := by decide +kernel
theorem dX12_sideOf_10 : decode cX12_sideOf 10 = .ok (.isub, 1) := by decide +kernel
theorem dX12_sideOf_11 : decode cX12_sideOf 11 = .ok (.istore_n 2, 1) := by decide +kernel
theorem dX12_sideOf_12 : decode cX12_sideOf 12 = .ok (.iload_n 1, 1) := by decide +kernel
theorem dX12_sideOf_13 : decode cX12_sideOf 13 = .ok (.invokestatic 379, 3) := by decide +kernel
theorem dX12_sideOf_16 : decode cX12_sideOf 16 = .ok (.iconst 2, 1) := by decide +kernel
theorem dX12_sideOf_17 : decode cX12_sideOf 17 = .ok (.iload_n 2, 1) := by decide +kernel
theorem dX12_sideOf_18 : decode cX12_sideOf 18 = .ok (.invokestatic 379, 3) := by decide +kernel
theorem dX12_sideOf_21 : decode cX12_sideOf 21 = .ok (.imul, 1) := by decide +kernel
theorem dX12_sideOf_22 : decode cX12_sideOf 22 = .ok (.if_icmp .lt 13, 3) := by decide +kernel
theorem dX12_sideOf_25 : decode cX12_sideOf 25 = .ok (.iload_n 1, 1) := by decide +kernel
theorem dX12_sideOf_26 : decode cX12_sideOf 26 = .ok (.ifCond .le 7, 3) := by decide +kernel
theorem dX12_sideOf_29 : decode cX12_sideOf 29 = .ok (.iconst 0, 1) := by decide +kernel
theorem dX12_sideOf_30 : decode cX12_sideOf 30 = .ok (.goto 4, 3) := by decide +kernel
theorem dX12_sideOf_33 : decode cX12_sideOf 33 = .ok (.iconst 4, 1) := by decide +kernel
theorem dX12_sideOf_34 : decode cX12_sideOf 34 = .ok (.ireturn, 1) := by decide +kernel
theorem dX12_sideOf_35 : decode cX12_sideOf 35 = .ok (.iload_n 2, 1) := by decide +kernel
theorem dX12_sideOf_36 : decode cX12_sideOf 36 = .ok (.invokestatic 379, 3) := by decide +kernel
theorem dX12_sideOf_39 : decode cX12_sideOf 39 = .ok (.iconst 2, 1) := by decide +kernel
theorem dX12_sideOf_40 : decode cX12_sideOf 40 = .ok (.iload_n 1, 1) := by decide +kernel
theorem dX12_sideOf_41 : decode cX12_sideOf 41 = .ok (.invokestatic 379, 3) := by decide +kernel
theorem dX12_sideOf_44 : decode cX12_sideOf 44 = .ok (.imul, 1) := by decide +kernel
theorem dX12_sideOf_45 : decode cX12_sideOf 45 = .ok (.if_icmp .lt 14, 3) := by decide +kernel
theorem dX12_sideOf_48 : decode cX12_sideOf 48 = .ok (.iload_n 2, 1) := by decide +kernel
theorem dX12_sideOf_49 : decode cX12_sideOf 49 = .ok (.ifCond .le 7, 3) := by decide +kernel
theorem dX12_sideOf_52 : decode cX12_sideOf 52 = .ok (.iconst 2, 1) := by decide +kernel
theorem dX12_sideOf_53 : decode cX12_sideOf 53 = .ok (.goto 5, 3) := by decide +kernel
theorem dX12_sideOf_56 : decode cX12_sideOf 56 = .ok (.bipush 6, 2) := by decide +kernel
theorem dX12_sideOf_58 : decode cX12_sideOf 58 = .ok (.ireturn, 1) := by decide +kernel
theorem dX12_sideOf_59 : decode cX12_sideOf 59 = .ok (.iload_n 1, 1) := by decide +kernel
theorem dX12_sideOf_60 : decode cX12_sideOf 60 = .ok (.ifCond .le 16, 3) := by decide +kernel
theorem dX12_sideOf_63 : decode cX12_sideOf 63 = .ok (.iload_n 2, 1) := by decide +kernel
theorem dX12_sideOf_64 : decode cX12_sideOf 64 = .ok (.ifCond .le 7, 3) := by decide +kernel
theorem dX12_sideOf_67 : decode cX12_sideOf 67 = .ok (.iconst 1, 1) := by decide +kernel
theorem dX12_sideOf_68 : decode cX12_sideOf 68 = .ok (.goto 17, 3) := by decide +kernel
theorem dX12_sideOf_71 : decode cX12_sideOf 71 = .ok (.bipush 7, 2) := by decide +kernel
theorem dX12_sideOf_73 : decode cX12_sideOf 73 = .ok (.goto 12, 3) := by decide +kernel
theorem dX12_sideOf_76 : decode cX12_sideOf 76 = .ok (.iload_n 2, 1) := by decide +kernel
theorem dX12_sideOf_77 : decode cX12_sideOf 77 = .ok (.ifCond .le 7, 3) := by decide +kernel
theorem dX12_sideOf_80 : decode cX12_sideOf 80 = .ok (.iconst 3, 1) := by decide +kernel
theorem dX12_sideOf_81 : decode cX12_sideOf 81 = .ok (.goto 4, 3) := by decide +kernel
theorem dX12_sideOf_84 : decode cX12_sideOf 84 = .ok (.iconst 5, 1) := by decide +kernel
theorem dX12_sideOf_85 : decode cX12_sideOf 85 = .ok (.ireturn, 1) := by decide +kernel
theorem dX12_wayTo_0 : decode cX12_wayTo 0 = .ok (.iload_n 1, 1) := by decide +kernel
theorem dX12_wayTo_1 : decode cX12_wayTo 1 = .ok (.aload_n 0, 1) := by decide +kernel
theorem dX12_wayTo_2 : decode cX12_wayTo 2 = .ok (.getfield 527, 3) := by decide +kernel
theorem dX12_wayTo_5 : decode cX12_wayTo 5 = .ok (.if_icmp .ne 18, 3) := by decide +kernel
theorem dX12_wayTo_8 : decode cX12_wayTo 8 = .ok (.bipush 12, 2) := by decide +kernel
theorem dX12_wayTo_10 : decode cX12_wayTo 10 = .ok (.iload_n 2, 1) := by decide +kernel
theorem dX12_wayTo_11 : decode cX12_wayTo 11 = .ok (.invokestatic 524, 3) := by decide +kernel
theorem dX12_wayTo_14 : decode cX12_wayTo 14 = .ok (.aload_n 0, 1) := by decide +kernel
theorem dX12_wayTo_15 : decode cX12_wayTo 15 = .ok (.iconst 5, 1) := by decide +kernel
theorem dX12_wayTo_16 : decode cX12_wayTo 16 = .ok (.invokevirtual 313, 3) := by decide +kernel
theorem dX12_wayTo_19 : decode cX12_wayTo 19 = .ok (.iadd, 1) := by decide +kernel
theorem dX12_wayTo_20 : decode cX12_wayTo 20 = .ok (.goto 13, 3) := by decide +kernel
theorem dX12_wayTo_23 : decode cX12_wayTo 23 = .ok (.aload_n 0, 1) := by decide +kernel
theorem dX12_wayTo_24 : decode cX12_wayTo 24 = .ok (.getfield 84, 3) := by decide +kernel
theorem dX12_wayTo_27 : decode cX12_wayTo 27 = .ok (.iload_n 1, 1) := by decide +kernel
theorem dX12_wayTo_28 : decode cX12_wayTo 28 = .ok (.iaload, 1) := by decide +kernel
theorem dX12_wayTo_29 : decode cX12_wayTo 29 = .ok (.iload_n 2, 1) := by decide +kernel
theorem dX12_wayTo_30 : decode cX12_wayTo 30 = .ok (.invokestatic 524, 3) := by decide +kernel
theorem dX12_wayTo_33 : decode cX12_wayTo 33 = .ok (.ireturn, 1) := by decide +kernel
theorem dX12_picks_0 : decode cX12_picks 0 = .ok (.iconst 0, 1) := by decide +kernel
theorem dX12_picks_1 : decode cX12_picks 1 = .ok (.istore_n 2, 1) := by decide +kernel
theorem dX12_picks_2 : decode cX12_picks 2 = .ok (.iconst 1, 1) := by decide +kernel
theorem dX12_picks_3 : decode cX12_picks 3 = .ok (.istore_n 3, 1) := by decide +kernel
theorem dX12_picks_4 : decode cX12_picks 4 = .ok (.iload_n 3, 1) := by decide +kernel
theorem dX12_picks_5 : decode cX12_picks 5 = .ok (.aload_n 0, 1) := by decide +kernel
theorem dX12_picks_6 : decode cX12_picks 6 = .ok (.getfield 319, 3) := by decide +kernel
theorem dX12_picks_9 : decode cX12_picks 9 = .ok (.if_icmp .ge 55, 3) := by decide +kernel
theorem dX12_picks_12 : decode cX12_picks 12 = .ok (.aload_n 0, 1) := by decide +kernel
theorem dX12_picks_13 : decode cX12_picks 13 = .ok (.iload_n 3, 1) := by decide +kernel
theorem dX12_picks_14 : decode cX12_picks 14 = .ok (.iload_n 1, 1) := by decide +kernel
theorem dX12_picks_15 : decode cX12_picks 15 = .ok (.invokevirtual 530, 3) := by decide +kernel
theorem dX12_picks_18 : decode cX12_picks 18 = .ok (.aload_n 0, 1) := by decide +kernel
theorem dX12_picks_19 : decode cX12_picks 19 = .ok (.iload_n 2, 1) := by decide +kernel
theorem dX12_picks_20 : decode cX12_picks 20 = .ok (.iload_n 1, 1) := by decide +kernel
theorem dX12_picks_21 : decode cX12_picks 21 = .ok (.invokevirtual 530, 3) := by decide +kernel
theorem dX12_picks_24 : decode cX12_picks 24 = .ok (.isub, 1) := by decide +kernel
theorem dX12_picks_25 : decode cX12_picks 25 = .ok (.istore 4, 2) := by decide +kernel
theorem dX12_picks_27 : decode cX12_picks 27 = .ok (.iload 4, 2) := by decide +kernel
theorem dX12_picks_29 : decode cX12_picks 29 = .ok (.ifCond .lt 23, 3) := by decide +kernel
theorem dX12_picks_32 : decode cX12_picks 32 = .ok (.iload 4, 2) := by decide +kernel
theorem dX12_picks_34 : decode cX12_picks 34 = .ok (.ifCond .ne 22, 3) := by decide +kernel
theorem dX12_picks_37 : decode cX12_picks 37 = .ok (.aload_n 0, 1) := by decide +kernel
theorem dX12_picks_38 : decode cX12_picks 38 = .ok (.iload_n 3, 1) := by decide +kernel
theorem dX12_picks_39 : decode cX12_picks 39 = .ok (.iconst 3, 1) := by decide +kernel
theorem dX12_picks_40 : decode cX12_picks 40 = .ok (.invokevirtual 334, 3) := by decide +kernel
theorem dX12_picks_43 : decode cX12_picks 43 = .ok (.aload_n 0, 1) := by decide +kernel
theorem dX12_picks_44 : decode cX12_picks 44 = .ok (.iload_n 2, 1) := by decide +kernel
theorem dX12_picks_45 : decode cX12_picks 45 = .ok (.iconst 3, 1) := by decide +kernel
theorem dX12_picks_46 : decode cX12_picks 46 = .ok (.invokevirtual 334, 3) := by decide +kernel
theorem dX12_picks_49 : decode cX12_picks 49 = .ok (.if_icmp .le 7, 3) := by decide +kernel
theorem dX12_picks_52 : decode cX12_picks 52 = .ok (.iload_n 3, 1) := by decide +kernel
theorem dX12_picks_53 : decode cX12_picks 53 = .ok (.goto 4, 3) := by decide +kernel
theorem dX12_picks_56 : decode cX12_picks 56 = .ok (.iload_n 2, 1) := by decide +kernel
theorem dX12_picks_57 : decode cX12_picks 57 = .ok (.istore_n 2, 1) := by decide +kernel
theorem dX12_picks_58 : decode cX12_picks 58 = .ok (.iinc 3 1, 3) := by decide +kernel
theorem dX12_picks_61 : decode cX12_picks 61 = .ok (.goto (-57), 3) := by decide +kernel
theorem dX12_picks_64 : decode cX12_picks 64 = .ok (.iload_n 2, 1) := by decide +kernel
theorem dX12_picks_65 : decode cX12_picks 65 = .ok (.ireturn, 1) := by decide +kernel
theorem dX12_layStriker_0 : decode cX12_layStriker 0 = .ok (.aload_n 0, 1) := by decide +kernel
theorem dX12_layStriker_1 : decode cX12_layStriker 1 = .ok (.iload_n 1, 1) := by decide +kernel
theorem dX12_layStriker_2 : decode cX12_layStriker 2 = .ok (.invokevirtual 328, 3) := by decide +kernel
theorem dX12_layStriker_5 : decode cX12_layStriker 5 = .ok (.ifCond .eq 16, 3) := by decide +kernel
theorem dX12_layStriker_8 : decode cX12_layStriker 8 = .ok (.iload_n 2, 1) := by decide +kernel
theorem dX12_layStriker_9 : decode cX12_layStriker 9 = .ok (.iconst (-1), 1) := by decide +kernel
theorem dX12_layStriker_10 : decode cX12_layStriker 10 = .ok (.if_icmp .eq 13, 3) := by decide +kernel
theorem dX12_layStriker_13 : decode cX12_layStriker 13 = .ok (.aload_n 0, 1) := by decide +kernel
theorem dX12_layStriker_14 : decode cX12_layStriker 14 = .ok (.iload_n 2, 1) := by decide +kernel
theorem dX12_layStriker_15 : decode cX12_layStriker 15 = .ok (.invokevirtual 331, 3) := by decide +kernel
theorem dX12_layStriker_18 : decode cX12_layStriker 18 = .ok (.ifCond .ne 5, 3) := by decide +kernel
theorem dX12_layStriker_21 : decode cX12_layStriker 21 = .ok (.iconst 0, 1) := by decide +kernel
theorem dX12_layStriker_22 : decode cX12_layStriker 22 = .ok (.ireturn, 1) := by decide +kernel
theorem dX12_layStriker_23 : decode cX12_layStriker 23 = .ok (.aload_n 0, 1) := by decide +kernel
theorem dX12_layStriker_24 : decode cX12_layStriker 24 = .ok (.iload_n 2, 1) := by decide +kernel
theorem dX12_layStriker_25 : decode cX12_layStriker 25 = .ok (.putfield 527, 3) := by decide +kernel
theorem dX12_layStriker_28 : decode cX12_layStriker 28 = .ok (.iconst 0, 1) := by decide +kernel
theorem dX12_layStriker_29 : decode cX12_layStriker 29 = .ok (.istore_n 3, 1) := by decide +kernel
theorem dX12_layStriker_30 : decode cX12_layStriker 30 = .ok (.iload_n 3, 1) := by decide +kernel
theorem dX12_layStriker_31 : decode cX12_layStriker 31 = .ok (.aload_n 0, 1) := by decide +kernel
theorem dX12_layStriker_32 : decode cX12_layStriker 32 = .ok (.getfield 319, 3) := by decide +kernel
theorem dX12_layStriker_35 : decode cX12_layStriker 35 = .ok (.if_icmp .ge 21, 3) := by decide +kernel
theorem dX12_layStriker_38 : decode cX12_layStriker 38 = .ok (.aload_n 0, 1) := by decide +kernel
theorem dX12_layStriker_39 : decode cX12_layStriker 39 = .ok (.getfield 84, 3) := by decide +kernel
theorem dX12_layStriker_42 : decode cX12_layStriker 42 = .ok (.iload_n 3, 1) := by decide +kernel
theorem dX12_layStriker_43 : decode cX12_layStriker 43 = .ok (.aload_n 0, 1) := by decide +kernel
theorem dX12_layStriker_44 : decode cX12_layStriker 44 = .ok (.iload_n 3, 1) := by decide +kernel
theorem dX12_layStriker_45 : decode cX12_layStriker 45 = .ok (.iconst 4, 1) := by decide +kernel
theorem dX12_layStriker_46 : decode cX12_layStriker 46 = .ok (.invokevirtual 334, 3) := by decide +kernel
theorem dX12_layStriker_49 : decode cX12_layStriker 49 = .ok (.iastore, 1) := by decide +kernel
theorem dX12_layStriker_50 : decode cX12_layStriker 50 = .ok (.iinc 3 1, 3) := by decide +kernel
theorem dX12_layStriker_53 : decode cX12_layStriker 53 = .ok (.goto (-23), 3) := by decide +kernel
theorem dX12_layStriker_56 : decode cX12_layStriker 56 = .ok (.iconst 1, 1) := by decide +kernel
theorem dX12_layStriker_57 : decode cX12_layStriker 57 = .ok (.ireturn, 1) := by decide +kernel
theorem dX12_cell_0 : decode cX12_cell 0 = .ok (.aload_n 0, 1) := by decide +kernel
theorem dX12_cell_1 : decode cX12_cell 1 = .ok (.iconst 0, 1) := by decide +kernel
theorem dX12_cell_2 : decode cX12_cell 2 = .ok (.putfield 97, 3) := by decide +kernel
theorem dX12_cell_5 : decode cX12_cell 5 = .ok (.aload_n 0, 1) := by decide +kernel
theorem dX12_cell_6 : decode cX12_cell 6 = .ok (.iload_n 1, 1) := by decide +kernel
theorem dX12_cell_7 : decode cX12_cell 7 = .ok (.iload_n 2, 1) := by decide +kernel
theorem dX12_cell_8 : decode cX12_cell 8 = .ok (.invokevirtual 533, 3) := by decide +kernel
theorem dX12_cell_11 : decode cX12_cell 11 = .ok (.ifCond .eq 13, 3) := by decide +kernel
theorem dX12_cell_14 : decode cX12_cell 14 = .ok (.iload_n 3, 1) := by decide +kernel
theorem dX12_cell_15 : decode cX12_cell 15 = .ok (.iconst 0, 1) := by decide +kernel
theorem dX12_cell_16 : decode cX12_cell 16 = .ok (.bipush 24, 2) := by decide +kernel
theorem dX12_cell_18 : decode cX12_cell 18 = .ok (.invokestatic 105, 3) := by decide +kernel
theorem dX12_cell_21 : decode cX12_cell 21 = .ok (.ifCond .ne 5, 3) := by decide +kernel
theorem dX12_cell_24 : decode cX12_cell 24 = .ok (.iconst (-1), 1) := by decide +kernel
theorem dX12_cell_25 : decode cX12_cell 25 = .ok (.ireturn, 1) := by decide +kernel
theorem dX12_cell_26 : decode cX12_cell 26 = .ok (.iload 4, 2) := by decide +kernel
theorem dX12_cell_28 : decode cX12_cell 28 = .ok (.tableswitch 54 0 2 #[28, 33, 48], 28) := by decide +kernel
theorem dX12_cell_56 : decode cX12_cell 56 = .ok (.iload_n 3, 1) := by decide +kernel
theorem dX12_cell_57 : decode cX12_cell 57 = .ok (.invokestatic 536, 3) := by decide +kernel
theorem dX12_cell_60 : decode cX12_cell 60 = .ok (.ireturn, 1) := by decide +kernel
theorem dX12_cell_61 : decode cX12_cell 61 = .ok (.iload_n 3, 1) := by decide +kernel
theorem dX12_cell_62 : decode cX12_cell 62 = .ok (.bipush 12, 2) := by decide +kernel
theorem dX12_cell_64 : decode cX12_cell 64 = .ok (.if_icmp .ne 7, 3) := by decide +kernel
theorem dX12_cell_67 : decode cX12_cell 67 = .ok (.iconst (-1), 1) := by decide +kernel
theorem dX12_cell_68 : decode cX12_cell 68 = .ok (.goto 7, 3) := by decide +kernel
theorem dX12_cell_71 : decode cX12_cell 71 = .ok (.iload_n 3, 1) := by decide +kernel
theorem dX12_cell_72 : decode cX12_cell 72 = .ok (.invokestatic 539, 3) := by decide +kernel
theorem dX12_cell_75 : decode cX12_cell 75 = .ok (.ireturn, 1) := by decide +kernel
theorem dX12_cell_76 : decode cX12_cell 76 = .ok (.aload_n 0, 1) := by decide +kernel
theorem dX12_cell_77 : decode cX12_cell 77 = .ok (.iload_n 3, 1) := by decide +kernel
theorem dX12_cell_78 : decode cX12_cell 78 = .ok (.invokevirtual 542, 3) := by decide +kernel
theorem dX12_cell_81 : decode cX12_cell 81 = .ok (.ireturn, 1) := by decide +kernel
theorem dX12_cell_82 : decode cX12_cell 82 = .ok (.iconst (-1), 1) := by decide +kernel
theorem dX12_cell_83 : decode cX12_cell 83 = .ok (.ireturn, 1) := by decide +kernel
theorem dX12_weightOf_0 : decode cX12_weightOf 0 = .ok (.aload_n 0, 1) := by decide +kernel
theorem dX12_weightOf_1 : decode cX12_weightOf 1 = .ok (.bipush 15, 2) := by decide +kernel
theorem dX12_weightOf_3 : decode cX12_weightOf 3 = .ok (.iload_n 1, 1) := by decide +kernel
theorem dX12_weightOf_4 : decode cX12_weightOf 4 = .ok (.invokestatic 536, 3) := by decide +kernel
theorem dX12_weightOf_7 : decode cX12_weightOf 7 = .ok (.iadd, 1) := by decide +kernel
theorem dX12_weightOf_8 : decode cX12_weightOf 8 = .ok (.invokevirtual 313, 3) := by decide +kernel
theorem dX12_weightOf_11 : decode cX12_weightOf 11 = .ok (.ireturn, 1) := by decide +kernel
theorem dX12_allCells_0 : decode cX12_allCells 0 = .ok (.iconst 0, 1) := by decide +kernel
theorem dX12_allCells_1 : decode cX12_allCells 1 = .ok (.istore_n 1, 1) := by decide +kernel
theorem dX12_allCells_2 : decode cX12_allCells 2 = .ok (.iconst 0, 1) := by decide +kernel
theorem dX12_allCells_3 : decode cX12_allCells 3 = .ok (.istore_n 2, 1) := by decide +kernel
theorem dX12_allCells_4 : decode cX12_allCells 4 = .ok (.iload_n 2, 1) := by decide +kernel
theorem dX12_allCells_5 : decode cX12_allCells 5 = .ok (.bipush 25, 2) := by decide +kernel
theorem dX12_allCells_7 : decode cX12_allCells 7 = .ok (.if_icmp .ge 17, 3) := by decide +kernel
theorem dX12_allCells_10 : decode cX12_allCells 10 = .ok (.iload_n 1, 1) := by decide +kernel
theorem dX12_allCells_11 : decode cX12_allCells 11 = .ok (.aload_n 0, 1) := by decide +kernel
theorem dX12_allCells_12 : decode cX12_allCells 12 = .ok (.iload_n 2, 1) := by decide +kernel
theorem dX12_allCells_13 : decode cX12_allCells 13 = .ok (.invokevirtual 545, 3) := by decide +kernel
theorem dX12_allCells_16 : decode cX12_allCells 16 = .ok (.iadd, 1) := by decide +kernel
theorem dX12_allCells_17 : decode cX12_allCells 17 = .ok (.istore_n 1, 1) := by decide +kernel
theorem dX12_allCells_18 : decode cX12_allCells 18 = .ok (.iinc 2 1, 3) := by decide +kernel
theorem dX12_allCells_21 : decode cX12_allCells 21 = .ok (.goto (-17), 3) := by decide +kernel
theorem dX12_allCells_24 : decode cX12_allCells 24 = .ok (.iload_n 1, 1) := by decide +kernel
theorem dX12_allCells_25 : decode cX12_allCells 25 = .ok (.ireturn, 1) := by decide +kernel
theorem dX12_shareOf_0 : decode cX12_shareOf 0 = .ok (.iconst 0, 1) := by decide +kernel
theorem dX12_shareOf_1 : decode cX12_shareOf 1 = .ok (.istore_n 2, 1) := by decide +kernel
theorem dX12_shareOf_2 : decode cX12_shareOf 2 = .ok (.iconst 0, 1) := by decide +kernel
theorem dX12_shareOf_3 : decode cX12_shareOf 3 = .ok (.istore_n 3, 1) := by decide +kernel
theorem dX12_shareOf_4 : decode cX12_shareOf 4 = .ok (.iload_n 3, 1) := by decide +kernel
theorem dX12_shareOf_5 : decode cX12_shareOf 5 = .ok (.bipush 25, 2) := by decide +kernel
theorem dX12_shareOf_7 : decode cX12_shareOf 7 = .ok (.if_icmp .ge 30, 3) := by decide +kernel
theorem dX12_shareOf_10 : decode cX12_shareOf 10 = .ok (.iload_n 2, 1) := by decide +kernel
theorem dX12_shareOf_11 : decode cX12_shareOf 11 = .ok (.aload_n 0, 1) := by decide +kernel
theorem dX12_shareOf_12 : decode cX12_shareOf 12 = .ok (.iload_n 3, 1) := by decide +kernel
theorem dX12_shareOf_13 : decode cX12_shareOf 13 = .ok (.invokevirtual 542, 3) := by decide +kernel
theorem dX12_shareOf_16 : decode cX12_shareOf 16 = .ok (.iload_n 1, 1) := by decide +kernel
theorem dX12_shareOf_17 : decode cX12_shareOf 17 = .ok (.if_icmp .ne 11, 3) := by decide +kernel
theorem dX12_shareOf_20 : decode cX12_shareOf 20 = .ok (.aload_n 0, 1) := by decide +kernel
theorem dX12_shareOf_21 : decode cX12_shareOf 21 = .ok (.iload_n 3, 1) := by decide +kernel
theorem dX12_shareOf_22 : decode cX12_shareOf 22 = .ok (.invokevirtual 545, 3) := by decide +kernel
theorem dX12_shareOf_25 : decode cX12_shareOf 25 = .ok (.goto 4, 3) := by decide +kernel
theorem dX12_shareOf_28 : decode cX12_shareOf 28 = .ok (.iconst 0, 1) := by decide +kernel
theorem dX12_shareOf_29 : decode cX12_shareOf 29 = .ok (.iadd, 1) := by decide +kernel
theorem dX12_shareOf_30 : decode cX12_shareOf 30 = .ok (.istore_n 2, 1) := by decide +kernel
theorem dX12_shareOf_31 : decode cX12_shareOf 31 = .ok (.iinc 3 1, 3) := by decide +kernel
theorem dX12_shareOf_34 : decode cX12_shareOf 34 = .ok (.goto (-30), 3) := by decide +kernel
theorem dX12_shareOf_37 : decode cX12_shareOf 37 = .ok (.iload_n 2, 1) := by decide +kernel
theorem dX12_shareOf_38 : decode cX12_shareOf 38 = .ok (.ireturn, 1) := by decide +kernel
theorem dX12_share_0 : decode cX12_share 0 = .ok (.aload_n 0, 1) := by decide +kernel
theorem dX12_share_1 : decode cX12_share 1 = .ok (.iconst 0, 1) := by decide +kernel
theorem dX12_share_2 : decode cX12_share 2 = .ok (.putfield 97, 3) := by decide +kernel
theorem dX12_share_5 : decode cX12_share 5 = .ok (.aload_n 0, 1) := by decide +kernel
theorem dX12_share_6 : decode cX12_share 6 = .ok (.iload_n 1, 1) := by decide +kernel
theorem dX12_share_7 : decode cX12_share 7 = .ok (.iload_n 2, 1) := by decide +kernel
theorem dX12_share_8 : decode cX12_share 8 = .ok (.invokevirtual 533, 3) := by decide +kernel
theorem dX12_share_11 : decode cX12_share 11 = .ok (.ifCond .eq 11, 3) := by decide +kernel
theorem dX12_share_14 : decode cX12_share 14 = .ok (.aload_n 0, 1) := by decide +kernel
theorem dX12_share_15 : decode cX12_share 15 = .ok (.iload_n 3, 1) := by decide +kernel
theorem dX12_share_16 : decode cX12_share 16 = .ok (.invokevirtual 331, 3) := by decide +kernel
theorem dX12_share_19 : decode cX12_share 19 = .ok (.ifCond .ne 5, 3) := by decide +kernel
theorem dX12_share_22 : decode cX12_share 22 = .ok (.iconst (-1), 1) := by decide +kernel
theorem dX12_share_23 : decode cX12_share 23 = .ok (.ireturn, 1) := by decide +kernel
theorem dX12_share_24 : decode cX12_share 24 = .ok (.aload_n 0, 1) := by decide +kernel
theorem dX12_share_25 : decode cX12_share 25 = .ok (.invokevirtual 548, 3) := by decide +kernel
theorem dX12_share_28 : decode cX12_share 28 = .ok (.istore 5, 2) := by decide +kernel
theorem dX12_share_30 : decode cX12_share 30 = .ok (.iload 5, 2) := by decide +kernel
theorem dX12_share_32 : decode cX12_share 32 = .ok (.ifCond .ne 16, 3) := by decide +kernel
theorem dX12_share_35 : decode cX12_share 35 = .ok (.iload 4, 2) := by decide +kernel
theorem dX12_share_37 : decode cX12_share 37 = .ok (.ifCond .eq 7, 3) := by decide +kernel
theorem dX12_share_40 : decode cX12_share 40 = .ok (.iconst 1, 1) := by decide +kernel
theorem dX12_share_41 : decode cX12_share 41 = .ok (.goto 22, 3) := by decide +kernel
theorem dX12_share_44 : decode cX12_share 44 = .ok (.iconst 0, 1) := by decide +kernel
theorem dX12_share_45 : decode cX12_share 45 = .ok (.goto 18, 3) := by decide +kernel
theorem dX12_share_48 : decode cX12_share 48 = .ok (.aload_n 0, 1) := by decide +kernel
theorem dX12_share_49 : decode cX12_share 49 = .ok (.iload_n 3, 1) := by decide +kernel
theorem dX12_share_50 : decode cX12_share 50 = .ok (.invokevirtual 551, 3) := by decide +kernel
theorem dX12_share_53 : decode cX12_share 53 = .ok (.i2l, 1) := by decide +kernel
theorem dX12_share_54 : decode cX12_share 54 = .ok (.iload 5, 2) := by decide +kernel
theorem dX12_share_56 : decode cX12_share 56 = .ok (.i2l, 1) := by decide +kernel
theorem dX12_share_57 : decode cX12_share 57 = .ok (.iload 4, 2) := by decide +kernel
theorem dX12_share_59 : decode cX12_share 59 = .ok (.invokestatic 455, 3) := by decide +kernel
theorem dX12_share_62 : decode cX12_share 62 = .ok (.l2i, 1) := by decide +kernel
theorem dX12_share_63 : decode cX12_share 63 = .ok (.ireturn, 1) := by decide +kernel
theorem dX12_stand_0 : decode cX12_stand 0 = .ok (.aload_n 0, 1) := by decide +kernel
theorem dX12_stand_1 : decode cX12_stand 1 = .ok (.iconst 0, 1) := by decide +kernel
theorem dX12_stand_2 : decode cX12_stand 2 = .ok (.putfield 97, 3) := by decide +kernel
theorem dX12_stand_5 : decode cX12_stand 5 = .ok (.aload_n 0, 1) := by decide +kernel
theorem dX12_stand_6 : decode cX12_stand 6 = .ok (.iload_n 1, 1) := by decide +kernel
theorem dX12_stand_7 : decode cX12_stand 7 = .ok (.iload_n 2, 1) := by decide +kernel
theorem dX12_stand_8 : decode cX12_stand 8 = .ok (.invokevirtual 533, 3) := by decide +kernel
theorem dX12_stand_11 : decode cX12_stand 11 = .ok (.ifCond .eq 16, 3) := by decide +kernel
theorem dX12_stand_14 : decode cX12_stand 14 = .ok (.aload_n 0, 1) := by decide +kernel
theorem dX12_stand_15 : decode cX12_stand 15 = .ok (.iload_n 3, 1) := by decide +kernel
theorem dX12_stand_16 : decode cX12_stand 16 = .ok (.invokevirtual 331, 3) := by decide +kernel
theorem dX12_stand_19 : decode cX12_stand 19 = .ok (.ifCond .eq 8, 3) := by decide +kernel
theorem dX12_stand_22 : decode cX12_stand 22 = .ok (.iload_n 3, 1) := by decide +kernel
theorem dX12_stand_23 : decode cX12_stand 23 = .ok (.iload_n 2, 1) := by decide +kernel
theorem dX12_stand_24 : decode cX12_stand 24 = .ok (.if_icmp .ne 5, 3) := by decide +kernel
theorem dX12_stand_27 : decode cX12_stand 27 = .ok (.iconst (-1), 1) := by decide +kernel
theorem dX12_stand_28 : decode cX12_stand 28 = .ok (.ireturn, 1) := by decide +kernel
theorem dX12_stand_29 : decode cX12_stand 29 = .ok (.iconst (-1), 1) := by decide +kernel
theorem dX12_stand_30 : decode cX12_stand 30 = .ok (.istore 4, 2) := by decide +kernel
theorem dX12_stand_32 : decode cX12_stand 32 = .ok (.iconst (-1), 1) := by decide +kernel
theorem dX12_stand_33 : decode cX12_stand 33 = .ok (.istore 5, 2) := by decide +kernel
theorem dX12_stand_35 : decode cX12_stand 35 = .ok (.iconst 0, 1) := by decide +kernel
theorem dX12_stand_36 : decode cX12_stand 36 = .ok (.istore 6, 2) := by decide +kernel
theorem dX12_stand_38 : decode cX12_stand 38 = .ok (.iload 6, 2) := by decide +kernel
theorem dX12_stand_40 : decode cX12_stand 40 = .ok (.bipush 25, 2) := by decide +kernel
theorem dX12_stand_42 : decode cX12_stand 42 = .ok (.if_icmp .ge 63, 3) := by decide +kernel
theorem dX12_stand_45 : decode cX12_stand 45 = .ok (.iload 6, 2) := by decide +kernel
theorem dX12_stand_47 : decode cX12_stand 47 = .ok (.invokestatic 536, 3) := by decide +kernel
theorem dX12_stand_50 : decode cX12_stand 50 = .ok (.aload_n 0, 1) := by decide +kernel
theorem dX12_stand_51 : decode cX12_stand 51 = .ok (.bipush 6, 2) := by decide +kernel
theorem dX12_stand_53 : decode cX12_stand 53 = .ok (.invokevirtual 313, 3) := by decide +kernel
theorem dX12_stand_56 : decode cX12_stand 56 = .ok (.if_icmp .le 43, 3) := by decide +kernel
theorem dX12_stand_59 : decode cX12_stand 59 = .ok (.aload_n 0, 1) := by decide +kernel
theorem dX12_stand_60 : decode cX12_stand 60 = .ok (.getfield 84, 3) := by decide +kernel
theorem dX12_stand_63 : decode cX12_stand 63 = .ok (.iload_n 3, 1) := by decide +kernel
theorem dX12_stand_64 : decode cX12_stand 64 = .ok (.iload 6, 2) := by decide +kernel
theorem dX12_stand_66 : decode cX12_stand 66 = .ok (.iastore, 1) := by decide +kernel
theorem dX12_stand_67 : decode cX12_stand 67 = .ok (.aload_n 0, 1) := by decide +kernel
theorem dX12_stand_68 : decode cX12_stand 68 = .ok (.iload_n 3, 1) := by decide +kernel
theorem dX12_stand_69 : decode cX12_stand 69 = .ok (.invokevirtual 551, 3) := by decide +kernel
theorem dX12_stand_72 : decode cX12_stand 72 = .ok (.istore 7, 2) := by decide +kernel
theorem dX12_stand_74 : decode cX12_stand 74 = .ok (.iload 7, 2) := by decide +kernel
theorem dX12_stand_76 : decode cX12_stand 76 = .ok (.iload 5, 2) := by decide +kernel
theorem dX12_stand_78 : decode cX12_stand 78 = .ok (.if_icmp .le 8, 3) := by decide +kernel
theorem dX12_stand_81 : decode cX12_stand 81 = .ok (.iload 6, 2) := by decide +kernel
theorem dX12_stand_83 : decode cX12_stand 83 = .ok (.goto 5, 3) := by decide +kernel
theorem dX12_stand_86 : decode cX12_stand 86 = .ok (.iload 4, 2) := by decide +kernel
theorem dX12_stand_88 : decode cX12_stand 88 = .ok (.istore 4, 2) := by decide +kernel
theorem dX12_stand_90 : decode cX12_stand 90 = .ok (.iload 5, 2) := by decide +kernel
theorem dX12_stand_92 : decode cX12_stand 92 = .ok (.iload 7, 2) := by decide +kernel
theorem dX12_stand_94 : decode cX12_stand 94 = .ok (.invokestatic 167, 3) := by decide +kernel
theorem dX12_stand_97 : decode cX12_stand 97 = .ok (.istore 5, 2) := by decide +kernel
theorem dX12_stand_99 : decode cX12_stand 99 = .ok (.iinc 6 1, 3) := by decide +kernel
theorem dX12_stand_102 : decode cX12_stand 102 = .ok (.goto (-64), 3) := by decide +kernel
theorem dX12_stand_105 : decode cX12_stand 105 = .ok (.iload 4, 2) := by decide +kernel
theorem dX12_stand_107 : decode cX12_stand 107 = .ok (.ireturn, 1) := by decide +kernel
theorem dX12_allTurned_0 : decode cX12_allTurned 0 = .ok (.iconst 0, 1) := by decide +kernel
theorem dX12_allTurned_1 : decode cX12_allTurned 1 = .ok (.istore_n 1, 1) := by decide +kernel
theorem dX12_allTurned_2 : decode cX12_allTurned 2 = .ok (.iconst 0, 1) := by decide +kernel
theorem dX12_allTurned_3 : decode cX12_allTurned 3 = .ok (.istore_n 2, 1) := by decide +kernel
theorem dX12_allTurned_4 : decode cX12_allTurned 4 = .ok (.iload_n 2, 1) := by decide +kernel
theorem dX12_allTurned_5 : decode cX12_allTurned 5 = .ok (.bipush 8, 2) := by decide +kernel
theorem dX12_allTurned_7 : decode cX12_allTurned 7 = .ok (.if_icmp .ge 20, 3) := by decide +kernel
theorem dX12_allTurned_10 : decode cX12_allTurned 10 = .ok (.iload_n 1, 1) := by decide +kernel
theorem dX12_allTurned_11 : decode cX12_allTurned 11 = .ok (.aload_n 0, 1) := by decide +kernel
theorem dX12_allTurned_12 : decode cX12_allTurned 12 = .ok (.bipush 7, 2) := by decide +kernel
theorem dX12_allTurned_14 : decode cX12_allTurned 14 = .ok (.iload_n 2, 1) := by decide +kernel
theorem dX12_allTurned_15 : decode cX12_allTurned 15 = .ok (.iadd, 1) := by decide +kernel
theorem dX12_allTurned_16 : decode cX12_allTurned 16 = .ok (.invokevirtual 313, 3) := by decide +kernel
theorem dX12_allTurned_19 : decode cX12_allTurned 19 = .ok (.iadd, 1) := by decide +kernel
theorem dX12_allTurned_20 : decode cX12_allTurned 20 = .ok (.istore_n 1, 1) := by decide +kernel
theorem dX12_allTurned_21 : decode cX12_allTurned 21 = .ok (.iinc 2 1, 3) := by decide +kernel
theorem dX12_allTurned_24 : decode cX12_allTurned 24 = .ok (.goto (-20), 3) := by decide +kernel
theorem dX12_allTurned_27 : decode cX12_allTurned 27 = .ok (.iload_n 1, 1) := by decide +kernel
theorem dX12_allTurned_28 : decode cX12_allTurned 28 = .ok (.ireturn, 1) := by decide +kernel
theorem dX12_dangerOf_0 : decode cX12_dangerOf 0 = .ok (.aload_n 0, 1) := by decide +kernel
theorem dX12_dangerOf_1 : decode cX12_dangerOf 1 = .ok (.iload_n 1, 1) := by decide +kernel
theorem dX12_dangerOf_2 : decode cX12_dangerOf 2 = .ok (.iconst 4, 1) := by decide +kernel
theorem dX12_dangerOf_3 : decode cX12_dangerOf 3 = .ok (.invokevirtual 334, 3) := by decide +kernel
theorem dX12_dangerOf_6 : decode cX12_dangerOf 6 = .ok (.istore_n 3, 1) := by decide +kernel
theorem dX12_dangerOf_7 : decode cX12_dangerOf 7 = .ok (.iload_n 3, 1) := by decide +kernel
theorem dX12_dangerOf_8 : decode cX12_dangerOf 8 = .ok (.invokestatic 536, 3) := by decide +kernel
theorem dX12_dangerOf_11 : decode cX12_dangerOf 11 = .ok (.iconst 1, 1) := by decide +kernel
theorem dX12_dangerOf_12 : decode cX12_dangerOf 12 = .ok (.iload_n 2, 1) := by decide +kernel
theorem dX12_dangerOf_13 : decode cX12_dangerOf 13 = .ok (.invokestatic 105, 3) := by decide +kernel
theorem dX12_dangerOf_16 : decode cX12_dangerOf 16 = .ok (.ifCond .eq 23, 3) := by decide +kernel
theorem dX12_dangerOf_19 : decode cX12_dangerOf 19 = .ok (.aload_n 0, 1) := by decide +kernel
theorem dX12_dangerOf_20 : decode cX12_dangerOf 20 = .ok (.bipush 7, 2) := by decide +kernel
theorem dX12_dangerOf_22 : decode cX12_dangerOf 22 = .ok (.bipush 8, 2) := by decide +kernel
theorem dX12_dangerOf_24 : decode cX12_dangerOf 24 = .ok (.iload_n 3, 1) := by decide +kernel
theorem dX12_dangerOf_25 : decode cX12_dangerOf 25 = .ok (.invokestatic 539, 3) := by decide +kernel
theorem dX12_dangerOf_28 : decode cX12_dangerOf 28 = .ok (.isub, 1) := by decide +kernel
theorem dX12_dangerOf_29 : decode cX12_dangerOf 29 = .ok (.bipush 8, 2) := by decide +kernel
theorem dX12_dangerOf_31 : decode cX12_dangerOf 31 = .ok (.irem, 1) := by decide +kernel
theorem dX12_dangerOf_32 : decode cX12_dangerOf 32 = .ok (.iadd, 1) := by decide +kernel
theorem dX12_dangerOf_33 : decode cX12_dangerOf 33 = .ok (.invokevirtual 313, 3) := by decide +kernel
theorem dX12_dangerOf_36 : decode cX12_dangerOf 36 = .ok (.goto 4, 3) := by decide +kernel
theorem dX12_dangerOf_39 : decode cX12_dangerOf 39 = .ok (.iconst 0, 1) := by decide +kernel
theorem dX12_dangerOf_40 : decode cX12_dangerOf 40 = .ok (.ireturn, 1) := by decide +kernel
theorem dX12_danger_0 : decode cX12_danger 0 = .ok (.aload_n 0, 1) := by decide +kernel
theorem dX12_danger_1 : decode cX12_danger 1 = .ok (.iconst 0, 1) := by decide +kernel
theorem dX12_danger_2 : decode cX12_danger 2 = .ok (.putfield 97, 3) := by decide +kernel
theorem dX12_danger_5 : decode cX12_danger 5 = .ok (.aload_n 0, 1) := by decide +kernel
theorem dX12_danger_6 : decode cX12_danger 6 = .ok (.iload_n 1, 1) := by decide +kernel
theorem dX12_danger_7 : decode cX12_danger 7 = .ok (.invokevirtual 328, 3) := by decide +kernel
theorem dX12_danger_10 : decode cX12_danger 10 = .ok (.ifCond .eq 11, 3) := by decide +kernel
theorem dX12_danger_13 : decode cX12_danger 13 = .ok (.aload_n 0, 1) := by decide +kernel
theorem dX12_danger_14 : decode cX12_danger 14 = .ok (.iload_n 2, 1) := by decide +kernel
theorem dX12_danger_15 : decode cX12_danger 15 = .ok (.invokevirtual 331, 3) := by decide +kernel
theorem dX12_danger_18 : decode cX12_danger 18 = .ok (.ifCond .ne 5, 3) := by decide +kernel
theorem dX12_danger_21 : decode cX12_danger 21 = .ok (.iconst (-1), 1) := by decide +kernel
theorem dX12_danger_22 : decode cX12_danger 22 = .ok (.ireturn, 1) := by decide +kernel
theorem dX12_danger_23 : decode cX12_danger 23 = .ok (.aload_n 0, 1) := by decide +kernel
theorem dX12_danger_24 : decode cX12_danger 24 = .ok (.iload_n 2, 1) := by decide +kernel
theorem dX12_danger_25 : decode cX12_danger 25 = .ok (.aload_n 0, 1) := by decide +kernel
theorem dX12_danger_26 : decode cX12_danger 26 = .ok (.bipush 6, 2) := by decide +kernel
theorem dX12_danger_28 : decode cX12_danger 28 = .ok (.invokevirtual 313, 3) := by decide +kernel
theorem dX12_danger_31 : decode cX12_danger 31 = .ok (.invokevirtual 554, 3) := by decide +kernel
theorem dX12_danger_34 : decode cX12_danger 34 = .ok (.i2l, 1) := by decide +kernel
theorem dX12_danger_35 : decode cX12_danger 35 = .ok (.aload_n 0, 1) := by decide +kernel
theorem dX12_danger_36 : decode cX12_danger 36 = .ok (.invokevirtual 557, 3) := by decide +kernel
theorem dX12_danger_39 : decode cX12_danger 39 = .ok (.i2l, 1) := by decide +kernel
theorem dX12_danger_40 : decode cX12_danger 40 = .ok (.iload_n 3, 1) := by decide +kernel
theorem dX12_danger_41 : decode cX12_danger 41 = .ok (.invokestatic 455, 3) := by decide +kernel
theorem dX12_danger_44 : decode cX12_danger 44 = .ok (.l2i, 1) := by decide +kernel
theorem dX12_danger_45 : decode cX12_danger 45 = .ok (.ireturn, 1) := by decide +kernel
theorem dX12_isSafe_0 : decode cX12_isSafe 0 = .ok (.iconst 0, 1) := by decide +kernel
theorem dX12_isSafe_1 : decode cX12_isSafe 1 = .ok (.istore_n 3, 1) := by decide +kernel
theorem dX12_isSafe_2 : decode cX12_isSafe 2 = .ok (.iload_n 3, 1) := by decide +kernel
theorem dX12_isSafe_3 : decode cX12_isSafe 3 = .ok (.aload_n 0, 1) := by decide +kernel
theorem dX12_isSafe_4 : decode cX12_isSafe 4 = .ok (.getfield 319, 3) := by decide +kernel
theorem dX12_isSafe_7 : decode cX12_isSafe 7 = .ok (.if_icmp .ge 29, 3) := by decide +kernel
theorem dX12_isSafe_10 : decode cX12_isSafe 10 = .ok (.bipush 100, 2) := by decide +kernel
theorem dX12_isSafe_12 : decode cX12_isSafe 12 = .ok (.aload_n 0, 1) := by decide +kernel
theorem dX12_isSafe_13 : decode cX12_isSafe 13 = .ok (.iload_n 3, 1) := by decide +kernel
theorem dX12_isSafe_14 : decode cX12_isSafe 14 = .ok (.iload_n 1, 1) := by decide +kernel
theorem dX12_isSafe_15 : decode cX12_isSafe 15 = .ok (.invokevirtual 554, 3) := by decide +kernel
theorem dX12_isSafe_18 : decode cX12_isSafe 18 = .ok (.imul, 1) := by decide +kernel
theorem dX12_isSafe_19 : decode cX12_isSafe 19 = .ok (.iload_n 2, 1) := by decide +kernel
theorem dX12_isSafe_20 : decode cX12_isSafe 20 = .ok (.aload_n 0, 1) := by decide +kernel
theorem dX12_isSafe_21 : decode cX12_isSafe 21 = .ok (.invokevirtual 557, 3) := by decide +kernel
theorem dX12_isSafe_24 : decode cX12_isSafe 24 = .ok (.imul, 1) := by decide +kernel
theorem dX12_isSafe_25 : decode cX12_isSafe 25 = .ok (.if_icmp .le 5, 3) := by decide +kernel
theorem dX12_isSafe_28 : decode cX12_isSafe 28 = .ok (.iconst 0, 1) := by decide +kernel
theorem dX12_isSafe_29 : decode cX12_isSafe 29 = .ok (.ireturn, 1) := by decide +kernel
theorem dX12_isSafe_30 : decode cX12_isSafe 30 = .ok (.iinc 3 1, 3) := by decide +kernel
theorem dX12_isSafe_33 : decode cX12_isSafe 33 = .ok (.goto (-31), 3) := by decide +kernel
theorem dX12_isSafe_36 : decode cX12_isSafe 36 = .ok (.iconst 1, 1) := by decide +kernel
theorem dX12_isSafe_37 : decode cX12_isSafe 37 = .ok (.ireturn, 1) := by decide +kernel
theorem dX12_safe_0 : decode cX12_safe 0 = .ok (.aload_n 0, 1) := by decide +kernel
theorem dX12_safe_1 : decode cX12_safe 1 = .ok (.iconst 0, 1) := by decide +kernel
theorem dX12_safe_2 : decode cX12_safe 2 = .ok (.putfield 97, 3) := by decide +kernel
theorem dX12_safe_5 : decode cX12_safe 5 = .ok (.iload_n 2, 1) := by decide +kernel
theorem dX12_safe_6 : decode cX12_safe 6 = .ok (.iconst 0, 1) := by decide +kernel
theorem dX12_safe_7 : decode cX12_safe 7 = .ok (.bipush 100, 2) := by decide +kernel
theorem dX12_safe_9 : decode cX12_safe 9 = .ok (.invokestatic 105, 3) := by decide +kernel
theorem dX12_safe_12 : decode cX12_safe 12 = .ok (.ifCond .eq 11, 3) := by decide +kernel
theorem dX12_safe_15 : decode cX12_safe 15 = .ok (.aload_n 0, 1) := by decide +kernel
theorem dX12_safe_16 : decode cX12_safe 16 = .ok (.iload_n 1, 1) := by decide +kernel
theorem dX12_safe_17 : decode cX12_safe 17 = .ok (.invokevirtual 328, 3) := by decide +kernel
theorem dX12_safe_20 : decode cX12_safe 20 = .ok (.ifCond .ne 5, 3) := by decide +kernel
theorem dX12_safe_23 : decode cX12_safe 23 = .ok (.iconst (-1), 1) := by decide +kernel
theorem dX12_safe_24 : decode cX12_safe 24 = .ok (.ireturn, 1) := by decide +kernel
theorem dX12_safe_25 : decode cX12_safe 25 = .ok (.iconst 3, 1) := by decide +kernel
theorem dX12_safe_26 : decode cX12_safe 26 = .ok (.istore_n 3, 1) := by decide +kernel
theorem dX12_safe_27 : decode cX12_safe 27 = .ok (.aload_n 0, 1) := by decide +kernel
theorem dX12_safe_28 : decode cX12_safe 28 = .ok (.iload_n 3, 1) := by decide +kernel
theorem dX12_safe_29 : decode cX12_safe 29 = .ok (.iload_n 2, 1) := by decide +kernel
theorem dX12_safe_30 : decode cX12_safe 30 = .ok (.invokevirtual 560, 3) := by decide +kernel
theorem dX12_safe_33 : decode cX12_safe 33 = .ok (.ifCond .ne 9, 3) := by decide +kernel
theorem dX12_safe_36 : decode cX12_safe 36 = .ok (.iinc 3 (-1), 3) := by decide +kernel
theorem dX12_safe_39 : decode cX12_safe 39 = .ok (.goto (-12), 3) := by decide +kernel
theorem dX12_safe_42 : decode cX12_safe 42 = .ok (.iload_n 3, 1) := by decide +kernel
theorem dX12_safe_43 : decode cX12_safe 43 = .ok (.ireturn, 1) := by decide +kernel
theorem dX12_hasGround_0 : decode cX12_hasGround 0 = .ok (.aload_n 0, 1) := by decide +kernel
theorem dX12_hasGround_1 : decode cX12_hasGround 1 = .ok (.iload_n 1, 1) := by decide +kernel
theorem dX12_hasGround_2 : decode cX12_hasGround 2 = .ok (.putfield 563, 3) := by decide +kernel
theorem dX12_hasGround_5 : decode cX12_hasGround 5 = .ok (.aload_n 0, 1) := by decide +kernel
theorem dX12_hasGround_6 : decode cX12_hasGround 6 = .ok (.iconst 3, 1) := by decide +kernel
theorem dX12_hasGround_7 : decode cX12_hasGround 7 = .ok (.iload_n 1, 1) := by decide +kernel
theorem dX12_hasGround_8 : decode cX12_hasGround 8 = .ok (.invokevirtual 301, 3) := by decide +kernel
theorem dX12_hasGround_11 : decode cX12_hasGround 11 = .ok (.ireturn, 1) := by decide +kernel
theorem dX12_falls_0 : decode cX12_falls 0 = .ok (.aload_n 0, 1) := by decide +kernel
theorem dX12_falls_1 : decode cX12_falls 1 = .ok (.getfield 35, 3) := by decide +kernel
theorem dX12_falls_4 : decode cX12_falls 4 = .ok (.bipush 51, 2) := by decide +kernel
theorem dX12_falls_6 : decode cX12_falls 6 = .ok (.aload_n 0, 1) := by decide +kernel
theorem dX12_falls_7 : decode cX12_falls 7 = .ok (.getfield 563, 3) := by decide +kernel
theorem dX12_falls_10 : decode cX12_falls 10 = .ok (.imul, 1) := by decide +kernel
theorem dX12_falls_11 : decode cX12_falls 11 = .ok (.iaload, 1) := by decide +kernel
theorem dX12_falls_12 : decode cX12_falls 12 = .ok (.ireturn, 1) := by decide +kernel
theorem dX12_fallOf_0 : decode cX12_fallOf 0 = .ok (.aload_n 0, 1) := by decide +kernel
theorem dX12_fallOf_1 : decode cX12_fallOf 1 = .ok (.getfield 35, 3) := by decide +kernel
theorem dX12_fallOf_4 : decode cX12_fallOf 4 = .ok (.bipush 51, 2) := by decide +kernel
theorem dX12_fallOf_6 : decode cX12_fallOf 6 = .ok (.aload_n 0, 1) := by decide +kernel
theorem dX12_fallOf_7 : decode cX12_fallOf 7 = .ok (.getfield 563, 3) := by decide +kernel
theorem dX12_fallOf_10 : decode cX12_fallOf 10 = .ok (.imul, 1) := by decide +kernel
theorem dX12_fallOf_11 : decode cX12_fallOf 11 = .ok (.iconst 1, 1) := by decide +kernel
theorem dX12_fallOf_12 : decode cX12_fallOf 12 = .ok (.iadd, 1) := by decide +kernel
theorem dX12_fallOf_13 : decode cX12_fallOf 13 = .ok (.iconst 2, 1) := by decide +kernel
theorem dX12_fallOf_14 : decode cX12_fallOf 14 = .ok (.iload_n 1, 1) := by decide +kernel
theorem dX12_fallOf_15 : decode cX12_fallOf 15 = .ok (.imul, 1) := by decide +kernel
theorem dX12_fallOf_16 : decode cX12_fallOf 16 = .ok (.iadd, 1) := by decide +kernel
theorem dX12_fallOf_17 : decode cX12_fallOf 17 = .ok (.iload_n 2, 1) := by decide +kernel
theorem dX12_fallOf_18 : decode cX12_fallOf 18 = .ok (.iadd, 1) := by decide +kernel
theorem dX12_fallOf_19 : decode cX12_fallOf 19 = .ok (.iaload, 1) := by decide +kernel
theorem dX12_fallOf_20 : decode cX12_fallOf 20 = .ok (.ireturn, 1) := by decide +kernel
theorem dX12_allFell_0 : decode cX12_allFell 0 = .ok (.iconst 0, 1) := by decide +kernel
theorem dX12_allFell_1 : decode cX12_allFell 1 = .ok (.istore_n 1, 1) := by decide +kernel
theorem dX12_allFell_2 : decode cX12_allFell 2 = .ok (.iconst 0, 1) := by decide +kernel
theorem dX12_allFell_3 : decode cX12_allFell 3 = .ok (.istore_n 2, 1) := by decide +kernel
theorem dX12_allFell_4 : decode cX12_allFell 4 = .ok (.iload_n 2, 1) := by decide +kernel
theorem dX12_allFell_5 : decode cX12_allFell 5 = .ok (.aload_n 0, 1) := by decide +kernel
theorem dX12_allFell_6 : decode cX12_allFell 6 = .ok (.invokevirtual 566, 3) := by decide +kernel
theorem dX12_allFell_9 : decode cX12_allFell 9 = .ok (.if_icmp .ge 18, 3) := by decide +kernel
theorem dX12_allFell_12 : decode cX12_allFell 12 = .ok (.iload_n 1, 1) := by decide +kernel
theorem dX12_allFell_13 : decode cX12_allFell 13 = .ok (.aload_n 0, 1) := by decide +kernel
theorem dX12_allFell_14 : decode cX12_allFell 14 = .ok (.iload_n 2, 1) := by decide +kernel
theorem dX12_allFell_15 : decode cX12_allFell 15 = .ok (.iconst 1, 1) := by decide +kernel
theorem dX12_allFell_16 : decode cX12_allFell 16 = .ok (.invokevirtual 569, 3) := by decide +kernel
theorem dX12_allFell_19 : decode cX12_allFell 19 = .ok (.iadd, 1) := by decide +kernel
theorem dX12_allFell_20 : decode cX12_allFell 20 = .ok (.istore_n 1, 1) := by decide +kernel
theorem dX12_allFell_21 : decode cX12_allFell 21 = .ok (.iinc 2 1, 3) := by decide +kernel
theorem dX12_allFell_24 : decode cX12_allFell 24 = .ok (.goto (-20), 3) := by decide +kernel
theorem dX12_allFell_27 : decode cX12_allFell 27 = .ok (.iload_n 1, 1) := by decide +kernel
theorem dX12_allFell_28 : decode cX12_allFell 28 = .ok (.ireturn, 1) := by decide +kernel
theorem dX12_fell_0 : decode cX12_fell 0 = .ok (.aload_n 0, 1) := by decide +kernel
theorem dX12_fell_1 : decode cX12_fell 1 = .ok (.iconst 0, 1) := by decide +kernel
theorem dX12_fell_2 : decode cX12_fell 2 = .ok (.putfield 97, 3) := by decide +kernel
theorem dX12_fell_5 : decode cX12_fell 5 = .ok (.aload_n 0, 1) := by decide +kernel
theorem dX12_fell_6 : decode cX12_fell 6 = .ok (.iload_n 1, 1) := by decide +kernel
theorem dX12_fell_7 : decode cX12_fell 7 = .ok (.invokevirtual 572, 3) := by decide +kernel
theorem dX12_fell_10 : decode cX12_fell 10 = .ok (.ifCond .ne 6, 3) := by decide +kernel
theorem dX12_fell_13 : decode cX12_fell 13 = .ok (.bipush (-2), 2) := by decide +kernel
theorem dX12_fell_15 : decode cX12_fell 15 = .ok (.ireturn, 1) := by decide +kernel
theorem dX12_fell_16 : decode cX12_fell 16 = .ok (.iload_n 2, 1) := by decide +kernel
theorem dX12_fell_17 : decode cX12_fell 17 = .ok (.iconst (-1), 1) := by decide +kernel
theorem dX12_fell_18 : decode cX12_fell 18 = .ok (.if_icmp .ne 29, 3) := by decide +kernel
theorem dX12_fell_21 : decode cX12_fell 21 = .ok (.iload_n 3, 1) := by decide +kernel
theorem dX12_fell_22 : decode cX12_fell 22 = .ok (.ifCond .ne 10, 3) := by decide +kernel
theorem dX12_fell_25 : decode cX12_fell 25 = .ok (.aload_n 0, 1) := by decide +kernel
theorem dX12_fell_26 : decode cX12_fell 26 = .ok (.invokevirtual 566, 3) := by decide +kernel
theorem dX12_fell_29 : decode cX12_fell 29 = .ok (.goto 17, 3) := by decide +kernel
theorem dX12_fell_32 : decode cX12_fell 32 = .ok (.iload_n 3, 1) := by decide +kernel
theorem dX12_fell_33 : decode cX12_fell 33 = .ok (.iconst 1, 1) := by decide +kernel
theorem dX12_fell_34 : decode cX12_fell 34 = .ok (.if_icmp .ne 10, 3) := by decide +kernel
theorem dX12_fell_37 : decode cX12_fell 37 = .ok (.aload_n 0, 1) := by decide +kernel
theorem dX12_fell_38 : decode cX12_fell 38 = .ok (.invokevirtual 575, 3) := by decide +kernel
theorem dX12_fell_41 : decode cX12_fell 41 = .ok (.goto 5, 3) := by decide +kernel
theorem dX12_fell_44 : decode cX12_fell 44 = .ok (.bipush (-2), 2) := by decide +kernel
theorem dX12_fell_46 : decode cX12_fell 46 = .ok (.ireturn, 1) := by decide +kernel
theorem dX12_fell_47 : decode cX12_fell 47 = .ok (.iload_n 2, 1) := by decide +kernel
theorem dX12_fell_48 : decode cX12_fell 48 = .ok (.iconst 0, 1) := by decide +kernel
theorem dX12_fell_49 : decode cX12_fell 49 = .ok (.aload_n 0, 1) := by decide +kernel
theorem dX12_fell_50 : decode cX12_fell 50 = .ok (.invokevirtual 566, 3) := by decide +kernel
theorem dX12_fell_53 : decode cX12_fell 53 = .ok (.iconst 1, 1) := by decide +kernel
theorem dX12_fell_54 : decode cX12_fell 54 = .ok (.isub, 1) := by decide +kernel
theorem dX12_fell_55 : decode cX12_fell 55 = .ok (.invokestatic 105, 3) := by decide +kernel
theorem dX12_fell_58 : decode cX12_fell 58 = .ok (.ifCond .eq 21, 3) := by decide +kernel
theorem dX12_fell_61 : decode cX12_fell 61 = .ok (.iload_n 3, 1) := by decide +kernel
theorem dX12_fell_62 : decode cX12_fell 62 = .ok (.iconst 0, 1) := by decide +kernel
theorem dX12_fell_63 : decode cX12_fell 63 = .ok (.iconst 1, 1) := by decide +kernel
theorem dX12_fell_64 : decode cX12_fell 64 = .ok (.invokestatic 105, 3) := by decide +kernel
theorem dX12_fell_67 : decode cX12_fell 67 = .ok (.ifCond .eq 12, 3) := by decide +kernel
theorem dX12_fell_70 : decode cX12_fell 70 = .ok (.aload_n 0, 1) := by decide +kernel
theorem dX12_fell_71 : decode cX12_fell 71 = .ok (.iload_n 2, 1) := by decide +kernel
theorem dX12_fell_72 : decode cX12_fell 72 = .ok (.iload_n 3, 1) := by decide +kernel
theorem dX12_fell_73 : decode cX12_fell 73 = .ok (.invokevirtual 569, 3) := by decide +kernel
theorem dX12_fell_76 : decode cX12_fell 76 = .ok (.goto 5, 3) := by decide +kernel
theorem dX12_fell_79 : decode cX12_fell 79 = .ok (.bipush (-2), 2) := by decide +kernel
theorem dX12_fell_81 : decode cX12_fell 81 = .ok (.ireturn, 1) := by decide +kernel
theorem dX12_pickUp_0 : decode cX12_pickUp 0 = .ok (.iconst 0, 1) := by decide +kernel
theorem dX12_pickUp_1 : decode cX12_pickUp 1 = .ok (.istore_n 1, 1) := by decide +kernel
theorem dX12_pickUp_2 : decode cX12_pickUp 2 = .ok (.iload_n 1, 1) := by decide +kernel
theorem dX12_pickUp_3 : decode cX12_pickUp 3 = .ok (.bipush 8, 2) := by decide +kernel
theorem dX12_pickUp_5 : decode cX12_pickUp 5 = .ok (.if_icmp .ge 16, 3) := by decide +kernel
theorem dX12_pickUp_8 : decode cX12_pickUp 8 = .ok (.aload_n 0, 1) := by decide +kernel
theorem dX12_pickUp_9 : decode cX12_pickUp 9 = .ok (.getfield 87, 3) := by decide +kernel
theorem dX12_pickUp_12 : decode cX12_pickUp 12 = .ok (.iload_n 1, 1) := by decide +kernel
theorem dX12_pickUp_13 : decode cX12_pickUp 13 = .ok (.iconst 0, 1) := by decide +kernel
theorem dX12_pickUp_14 : decode cX12_pickUp 14 = .ok (.iastore, 1) := by decide +kernel
theorem dX12_pickUp_15 : decode cX12_pickUp 15 = .ok (.iinc 1 1, 3) := by decide +kernel
theorem dX12_pickUp_18 : decode cX12_pickUp 18 = .ok (.goto (-16), 3) := by decide +kernel
theorem dX12_pickUp_21 : decode cX12_pickUp 21 = .ok (.iconst 0, 1) := by decide +kernel
theorem dX12_pickUp_22 : decode cX12_pickUp 22 = .ok (.istore_n 1, 1) := by decide +kernel
theorem dX12_pickUp_23 : decode cX12_pickUp 23 = .ok (.iload_n 1, 1) := by decide +kernel
theorem dX12_pickUp_24 : decode cX12_pickUp 24 = .ok (.aload_n 0, 1) := by decide +kernel
theorem dX12_pickUp_25 : decode cX12_pickUp 25 = .ok (.invokevirtual 566, 3) := by decide +kernel
theorem dX12_pickUp_28 : decode cX12_pickUp 28 = .ok (.if_icmp .ge 33, 3) := by decide +kernel
theorem dX12_pickUp_31 : decode cX12_pickUp 31 = .ok (.aload_n 0, 1) := by decide +kernel
theorem dX12_pickUp_32 : decode cX12_pickUp 32 = .ok (.getfield 87, 3) := by decide +kernel
theorem dX12_pickUp_35 : decode cX12_pickUp 35 = .ok (.aload_n 0, 1) := by decide +kernel
theorem dX12_pickUp_36 : decode cX12_pickUp 36 = .ok (.aload_n 0, 1) := by decide +kernel
theorem dX12_pickUp_37 : decode cX12_pickUp 37 = .ok (.iload_n 1, 1) := by decide +kernel
theorem dX12_pickUp_38 : decode cX12_pickUp 38 = .ok (.iconst 0, 1) := by decide +kernel
theorem dX12_pickUp_39 : decode cX12_pickUp 39 = .ok (.invokevirtual 569, 3) := by decide +kernel
theorem dX12_pickUp_42 : decode cX12_pickUp 42 = .ok (.invokevirtual 542, 3) := by decide +kernel
theorem dX12_pickUp_45 : decode cX12_pickUp 45 = .ok (.dup2, 1) := by decide +kernel
theorem dX12_pickUp_46 : decode cX12_pickUp 46 = .ok (.iaload, 1) := by decide +kernel
theorem dX12_pickUp_47 : decode cX12_pickUp 47 = .ok (.aload_n 0, 1) := by decide +kernel
theorem dX12_pickUp_48 : decode cX12_pickUp 48 = .ok (.iload_n 1, 1) := by decide +kernel
theorem dX12_pickUp_49 : decode cX12_pickUp 49 = .ok (.iconst 1, 1) := by decide +kernel
theorem dX12_pickUp_50 : decode cX12_pickUp 50 = .ok (.invokevirtual 569, 3) := by decide +kernel
theorem dX12_pickUp_53 : decode cX12_pickUp 53 = .ok (.iadd, 1) := by decide +kernel
theorem dX12_pickUp_54 : decode cX12_pickUp 54 = .ok (.iastore, 1) := by decide +kernel
theorem dX12_pickUp_55 : decode cX12_pickUp 55 = .ok (.iinc 1 1, 3) := by decide +kernel
theorem dX12_pickUp_58 : decode cX12_pickUp 58 = .ok (.goto (-35), 3) := by decide +kernel
theorem dX12_pickUp_61 : decode cX12_pickUp 61 = .ok (.return_, 1) := by decide +kernel
theorem dX12_younger_0 : decode cX12_younger 0 = .ok (.iconst 0, 1) := by decide +kernel
theorem dX12_younger_1 : decode cX12_younger 1 = .ok (.istore_n 2, 1) := by decide +kernel
theorem dX12_younger_2 : decode cX12_younger 2 = .ok (.iconst 0, 1) := by decide +kernel
theorem dX12_younger_3 : decode cX12_younger 3 = .ok (.istore_n 3, 1) := by decide +kernel
theorem dX12_younger_4 : decode cX12_younger 4 = .ok (.iload_n 3, 1) := by decide +kernel
theorem dX12_younger_5 : decode cX12_younger 5 = .ok (.aload_n 0, 1) := by decide +kernel
theorem dX12_younger_6 : decode cX12_younger 6 = .ok (.getfield 319, 3) := by decide +kernel
theorem dX12_younger_9 : decode cX12_younger 9 = .ok (.if_icmp .ge 47, 3) := by decide +kernel
theorem dX12_younger_12 : decode cX12_younger 12 = .ok (.aload_n 0, 1) := by decide +kernel
theorem dX12_younger_13 : decode cX12_younger 13 = .ok (.iload_n 3, 1) := by decide +kernel
theorem dX12_younger_14 : decode cX12_younger 14 = .ok (.iconst 0, 1) := by decide +kernel
theorem dX12_younger_15 : decode cX12_younger 15 = .ok (.invokevirtual 334, 3) := by decide +kernel
theorem dX12_younger_18 : decode cX12_younger 18 = .ok (.aload_n 0, 1) := by decide +kernel
theorem dX12_younger_19 : decode cX12_younger 19 = .ok (.iload_n 1, 1) := by decide +kernel
theorem dX12_younger_20 : decode cX12_younger 20 = .ok (.iconst 0, 1) := by decide +kernel
theorem dX12_younger_21 : decode cX12_younger 21 = .ok (.invokevirtual 334, 3) := by decide +kernel
theorem dX12_younger_24 : decode cX12_younger 24 = .ok (.isub, 1) := by decide +kernel
theorem dX12_younger_25 : decode cX12_younger 25 = .ok (.istore 4, 2) := by decide +kernel
theorem dX12_younger_27 : decode cX12_younger 27 = .ok (.iload_n 2, 1) := by decide +kernel
theorem dX12_younger_28 : decode cX12_younger 28 = .ok (.iload 4, 2) := by decide +kernel
theorem dX12_younger_30 : decode cX12_younger 30 = .ok (.ifCond .lt 13, 3) := by decide +kernel
theorem dX12_younger_33 : decode cX12_younger 33 = .ok (.iload 4, 2) := by decide +kernel
theorem dX12_younger_35 : decode cX12_younger 35 = .ok (.ifCond .ne 12, 3) := by decide +kernel
theorem dX12_younger_38 : decode cX12_younger 38 = .ok (.iload_n 3, 1) := by decide +kernel
theorem dX12_younger_39 : decode cX12_younger 39 = .ok (.iload_n 1, 1) := by decide +kernel
theorem dX12_younger_40 : decode cX12_younger 40 = .ok (.if_icmp .ge 7, 3) := by decide +kernel
theorem dX12_younger_43 : decode cX12_younger 43 = .ok (.iconst 1, 1) := by decide +kernel
theorem dX12_younger_44 : decode cX12_younger 44 = .ok (.goto 4, 3) := by decide +kernel
theorem dX12_younger_47 : decode cX12_younger 47 = .ok (.iconst 0, 1) := by decide +kernel
theorem dX12_younger_48 : decode cX12_younger 48 = .ok (.iadd, 1) := by decide +kernel
theorem dX12_younger_49 : decode cX12_younger 49 = .ok (.istore_n 2, 1) := by decide +kernel
theorem dX12_younger_50 : decode cX12_younger 50 = .ok (.iinc 3 1, 3) := by decide +kernel
theorem dX12_younger_53 : decode cX12_younger 53 = .ok (.goto (-49), 3) := by decide +kernel
theorem dX12_younger_56 : decode cX12_younger 56 = .ok (.iload_n 2, 1) := by decide +kernel
theorem dX12_younger_57 : decode cX12_younger 57 = .ok (.ireturn, 1) := by decide +kernel
theorem dX12_thanks_0 : decode cX12_thanks 0 = .ok (.iconst 0, 1) := by decide +kernel
theorem dX12_thanks_1 : decode cX12_thanks 1 = .ok (.istore_n 1, 1) := by decide +kernel
theorem dX12_thanks_2 : decode cX12_thanks 2 = .ok (.iload_n 1, 1) := by decide +kernel
theorem dX12_thanks_3 : decode cX12_thanks 3 = .ok (.aload_n 0, 1) := by decide +kernel
theorem dX12_thanks_4 : decode cX12_thanks 4 = .ok (.getfield 319, 3) := by decide +kernel
theorem dX12_thanks_7 : decode cX12_thanks 7 = .ok (.if_icmp .ge 72, 3) := by decide +kernel
theorem dX12_thanks_10 : decode cX12_thanks 10 = .ok (.aload_n 0, 1) := by decide +kernel
theorem dX12_thanks_11 : decode cX12_thanks 11 = .ok (.getfield 527, 3) := by decide +kernel
theorem dX12_thanks_14 : decode cX12_thanks 14 = .ok (.iconst (-1), 1) := by decide +kernel
theorem dX12_thanks_15 : decode cX12_thanks 15 = .ok (.if_icmp .eq 64, 3) := by decide +kernel
theorem dX12_thanks_18 : decode cX12_thanks 18 = .ok (.iload_n 1, 1) := by decide +kernel
theorem dX12_thanks_19 : decode cX12_thanks 19 = .ok (.aload_n 0, 1) := by decide +kernel
theorem dX12_thanks_20 : decode cX12_thanks 20 = .ok (.getfield 527, 3) := by decide +kernel
theorem dX12_thanks_23 : decode cX12_thanks 23 = .ok (.if_icmp .eq 50, 3) := by decide +kernel
theorem dX12_thanks_26 : decode cX12_thanks 26 = .ok (.aload_n 0, 1) := by decide +kernel
theorem dX12_thanks_27 : decode cX12_thanks 27 = .ok (.getfield 87, 3) := by decide +kernel
theorem dX12_thanks_30 : decode cX12_thanks 30 = .ok (.iload_n 1, 1) := by decide +kernel
theorem dX12_thanks_31 : decode cX12_thanks 31 = .ok (.iaload, 1) := by decide +kernel
theorem dX12_thanks_32 : decode cX12_thanks 32 = .ok (.ifCond .le 41, 3) := by decide +kernel
theorem dX12_thanks_35 : decode cX12_thanks 35 = .ok (.aload_n 0, 1) := by decide +kernel
theorem dX12_thanks_36 : decode cX12_thanks 36 = .ok (.iload_n 1, 1) := by decide +kernel
theorem dX12_thanks_37 : decode cX12_thanks 37 = .ok (.iconst 5, 1) := by decide +kernel
theorem dX12_thanks_38 : decode cX12_thanks 38 = .ok (.aload_n 0, 1) := by decide +kernel
theorem dX12_thanks_39 : decode cX12_thanks 39 = .ok (.getfield 527, 3) := by decide +kernel
theorem dX12_thanks_42 : decode cX12_thanks 42 = .ok (.iadd, 1) := by decide +kernel
theorem dX12_thanks_43 : decode cX12_thanks 43 = .ok (.invokevirtual 334, 3) := by decide +kernel
theorem dX12_thanks_46 : decode cX12_thanks 46 = .ok (.iconst 2, 1) := by decide +kernel
theorem dX12_thanks_47 : decode cX12_thanks 47 = .ok (.if_icmp .ne 26, 3) := by decide +kernel
theorem dX12_thanks_50 : decode cX12_thanks 50 = .ok (.aload_n 0, 1) := by decide +kernel
theorem dX12_thanks_51 : decode cX12_thanks 51 = .ok (.getfield 90, 3) := by decide +kernel
theorem dX12_thanks_54 : decode cX12_thanks 54 = .ok (.iload_n 1, 1) := by decide +kernel
theorem dX12_thanks_55 : decode cX12_thanks 55 = .ok (.dup2, 1) := by decide +kernel
theorem dX12_thanks_56 : decode cX12_thanks 56 = .ok (.iaload, 1) := by decide +kernel
theorem dX12_thanks_57 : decode cX12_thanks 57 = .ok (.iconst 1, 1) := by decide +kernel
theorem dX12_thanks_58 : decode cX12_thanks 58 = .ok (.isub, 1) := by decide +kernel
theorem dX12_thanks_59 : decode cX12_thanks 59 = .ok (.iastore, 1) := by decide +kernel
theorem dX12_thanks_60 : decode cX12_thanks 60 = .ok (.aload_n 0, 1) := by decide +kernel
theorem dX12_thanks_61 : decode cX12_thanks 61 = .ok (.getfield 90, 3) := by decide +kernel
theorem dX12_thanks_64 : decode cX12_thanks 64 = .ok (.aload_n 0, 1) := by decide +kernel
theorem dX12_thanks_65 : decode cX12_thanks 65 = .ok (.getfield 527, 3) := by decide +kernel
theorem dX12_thanks_68 : decode cX12_thanks 68 = .ok (.dup2, 1) := by decide +kernel
theorem dX12_thanks_69 : decode cX12_thanks 69 = .ok (.iaload, 1) := by decide +kernel
theorem dX12_thanks_70 : decode cX12_thanks 70 = .ok (.iconst 1, 1) := by decide +kernel
theorem dX12_thanks_71 : decode cX12_thanks 71 = .ok (.iadd, 1) := by decide +kernel
theorem dX12_thanks_72 : decode cX12_thanks 72 = .ok (.iastore, 1) := by decide +kernel
theorem dX12_thanks_73 : decode cX12_thanks 73 = .ok (.iinc 1 1, 3) := by decide +kernel
theorem dX12_thanks_76 : decode cX12_thanks 76 = .ok (.goto (-74), 3) := by decide +kernel
theorem dX12_thanks_79 : decode cX12_thanks 79 = .ok (.iconst 0, 1) := by decide +kernel
theorem dX12_thanks_80 : decode cX12_thanks 80 = .ok (.istore_n 1, 1) := by decide +kernel
theorem dX12_thanks_81 : decode cX12_thanks 81 = .ok (.iload_n 1, 1) := by decide +kernel
theorem dX12_thanks_82 : decode cX12_thanks 82 = .ok (.aload_n 0, 1) := by decide +kernel
theorem dX12_thanks_83 : decode cX12_thanks 83 = .ok (.getfield 319, 3) := by decide +kernel
theorem dX12_thanks_86 : decode cX12_thanks 86 = .ok (.if_icmp .ge 74, 3) := by decide +kernel
theorem dX12_thanks_89 : decode cX12_thanks 89 = .ok (.aload_n 0, 1) := by decide +kernel
theorem dX12_thanks_90 : decode cX12_thanks 90 = .ok (.getfield 527, 3) := by decide +kernel
theorem dX12_thanks_93 : decode cX12_thanks 93 = .ok (.iconst (-1), 1) := by decide +kernel
theorem dX12_thanks_94 : decode cX12_thanks 94 = .ok (.if_icmp .eq 66, 3) := by decide +kernel
theorem dX12_thanks_97 : decode cX12_thanks 97 = .ok (.iload_n 1, 1) := by decide +kernel
theorem dX12_thanks_98 : decode cX12_thanks 98 = .ok (.aload_n 0, 1) := by decide +kernel
theorem dX12_thanks_99 : decode cX12_thanks 99 = .ok (.getfield 527, 3) := by decide +kernel
theorem dX12_thanks_102 : decode cX12_thanks 102 = .ok (.if_icmp .eq 52, 3) := by decide +kernel
theorem dX12_thanks_105 : decode cX12_thanks 105 = .ok (.aload_n 0, 1) := by decide +kernel
theorem dX12_thanks_106 : decode cX12_thanks 106 = .ok (.getfield 90, 3) := by decide +kernel
theorem dX12_thanks_109 : decode cX12_thanks 109 = .ok (.aload_n 0, 1) := by decide +kernel
theorem dX12_thanks_110 : decode cX12_thanks 110 = .ok (.getfield 527, 3) := by decide +kernel
theorem dX12_thanks_113 : decode cX12_thanks 113 = .ok (.iaload, 1) := by decide +kernel
theorem dX12_thanks_114 : decode cX12_thanks 114 = .ok (.ifCond .le 40, 3) := by decide +kernel
theorem dX12_thanks_117 : decode cX12_thanks 117 = .ok (.aload_n 0, 1) := by decide +kernel
theorem dX12_thanks_118 : decode cX12_thanks 118 = .ok (.iload_n 1, 1) := by decide +kernel
theorem dX12_thanks_119 : decode cX12_thanks 119 = .ok (.iconst 5, 1) := by decide +kernel
theorem dX12_thanks_120 : decode cX12_thanks 120 = .ok (.aload_n 0, 1) := by decide +kernel
theorem dX12_thanks_121 : decode cX12_thanks 121 = .ok (.getfield 527, 3) := by decide +kernel
theorem dX12_thanks_124 : decode cX12_thanks 124 = .ok (.iadd, 1) := by decide +kernel
theorem dX12_thanks_125 : decode cX12_thanks 125 = .ok (.invokevirtual 334, 3) := by decide +kernel
theorem dX12_thanks_128 : decode cX12_thanks 128 = .ok (.ifCond .ne 26, 3) := by decide +kernel
theorem dX12_thanks_131 : decode cX12_thanks 131 = .ok (.aload_n 0, 1) := by decide +kernel
theorem dX12_thanks_132 : decode cX12_thanks 132 = .ok (.getfield 90, 3) := by decide +kernel
theorem dX12_thanks_135 : decode cX12_thanks 135 = .ok (.iload_n 1, 1) := by decide +kernel
theorem dX12_thanks_136 : decode cX12_thanks 136 = .ok (.dup2, 1) := by decide +kernel
theorem dX12_thanks_137 : decode cX12_thanks 137 = .ok (.iaload, 1) := by decide +kernel
theorem dX12_thanks_138 : decode cX12_thanks 138 = .ok (.iconst 1, 1) := by decide +kernel
theorem dX12_thanks_139 : decode cX12_thanks 139 = .ok (.iadd, 1) := by decide +kernel
theorem dX12_thanks_140 : decode cX12_thanks 140 = .ok (.iastore, 1) := by decide +kernel
theorem dX12_thanks_141 : decode cX12_thanks 141 = .ok (.aload_n 0, 1) := by decide +kernel
theorem dX12_thanks_142 : decode cX12_thanks 142 = .ok (.getfield 90, 3) := by decide +kernel
theorem dX12_thanks_145 : decode cX12_thanks 145 = .ok (.aload_n 0, 1) := by decide +kernel
theorem dX12_thanks_146 : decode cX12_thanks 146 = .ok (.getfield 527, 3) := by decide +kernel
theorem dX12_thanks_149 : decode cX12_thanks 149 = .ok (.dup2, 1) := by decide +kernel
theorem dX12_thanks_150 : decode cX12_thanks 150 = .ok (.iaload, 1) := by decide +kernel
theorem dX12_thanks_151 : decode cX12_thanks 151 = .ok (.iconst 1, 1) := by decide +kernel
theorem dX12_thanks_152 : decode cX12_thanks 152 = .ok (.isub, 1) := by decide +kernel
theorem dX12_thanks_153 : decode cX12_thanks 153 = .ok (.iastore, 1) := by decide +kernel
theorem dX12_thanks_154 : decode cX12_thanks 154 = .ok (.iinc 1 1, 3) := by decide +kernel
theorem dX12_thanks_157 : decode cX12_thanks 157 = .ok (.goto (-76), 3) := by decide +kernel
theorem dX12_thanks_160 : decode cX12_thanks 160 = .ok (.return_, 1) := by decide +kernel
theorem dX12_pack_0 : decode cX12_pack 0 = .ok (.aload_n 0, 1) := by decide +kernel
theorem dX12_pack_1 : decode cX12_pack 1 = .ok (.invokevirtual 575, 3) := by decide +kernel
theorem dX12_pack_4 : decode cX12_pack 4 = .ok (.istore_n 2, 1) := by decide +kernel
theorem dX12_pack_5 : decode cX12_pack 5 = .ok (.iconst 0, 1) := by decide +kernel
theorem dX12_pack_6 : decode cX12_pack 6 = .ok (.istore_n 3, 1) := by decide +kernel
theorem dX12_pack_7 : decode cX12_pack 7 = .ok (.iload_n 3, 1) := by decide +kernel
theorem dX12_pack_8 : decode cX12_pack 8 = .ok (.aload_n 0, 1) := by decide +kernel
theorem dX12_pack_9 : decode cX12_pack 9 = .ok (.getfield 319, 3) := by decide +kernel
theorem dX12_pack_12 : decode cX12_pack 12 = .ok (.if_icmp .ge 72, 3) := by decide +kernel
theorem dX12_pack_15 : decode cX12_pack 15 = .ok (.iload_n 1, 1) := by decide +kernel
theorem dX12_pack_16 : decode cX12_pack 16 = .ok (.iconst 1, 1) := by decide +kernel
theorem dX12_pack_17 : decode cX12_pack 17 = .ok (.if_icmp .ne 7, 3) := by decide +kernel
theorem dX12_pack_20 : decode cX12_pack 20 = .ok (.iload_n 3, 1) := by decide +kernel
theorem dX12_pack_21 : decode cX12_pack 21 = .ok (.goto 8, 3) := by decide +kernel
theorem dX12_pack_24 : decode cX12_pack 24 = .ok (.aload_n 0, 1) := by decide +kernel
theorem dX12_pack_25 : decode cX12_pack 25 = .ok (.iload_n 3, 1) := by decide +kernel
theorem dX12_pack_26 : decode cX12_pack 26 = .ok (.invokevirtual 578, 3) := by decide +kernel
theorem dX12_pack_29 : decode cX12_pack 29 = .ok (.istore 4, 2) := by decide +kernel
theorem dX12_pack_31 : decode cX12_pack 31 = .ok (.aload_n 0, 1) := by decide +kernel
theorem dX12_pack_32 : decode cX12_pack 32 = .ok (.getfield 90, 3) := by decide +kernel
theorem dX12_pack_35 : decode cX12_pack 35 = .ok (.iload_n 3, 1) := by decide +kernel
theorem dX12_pack_36 : decode cX12_pack 36 = .ok (.iload_n 1, 1) := by decide +kernel
theorem dX12_pack_37 : decode cX12_pack 37 = .ok (.ifCond .eq 8, 3) := by decide +kernel
theorem dX12_pack_40 : decode cX12_pack 40 = .ok (.iload_n 1, 1) := by decide +kernel
theorem dX12_pack_41 : decode cX12_pack 41 = .ok (.iconst 2, 1) := by decide +kernel
theorem dX12_pack_42 : decode cX12_pack 42 = .ok (.if_icmp .ne 12, 3) := by decide +kernel
theorem dX12_pack_45 : decode cX12_pack 45 = .ok (.aload_n 0, 1) := by decide +kernel
theorem dX12_pack_46 : decode cX12_pack 46 = .ok (.getfield 87, 3) := by decide +kernel
theorem dX12_pack_49 : decode cX12_pack 49 = .ok (.iload_n 3, 1) := by decide +kernel
theorem dX12_pack_50 : decode cX12_pack 50 = .ok (.iaload, 1) := by decide +kernel
theorem dX12_pack_51 : decode cX12_pack 51 = .ok (.goto 26, 3) := by decide +kernel
theorem dX12_pack_54 : decode cX12_pack 54 = .ok (.iload_n 2, 1) := by decide +kernel
theorem dX12_pack_55 : decode cX12_pack 55 = .ok (.aload_n 0, 1) := by decide +kernel
theorem dX12_pack_56 : decode cX12_pack 56 = .ok (.getfield 319, 3) := by decide +kernel
theorem dX12_pack_59 : decode cX12_pack 59 = .ok (.idiv, 1) := by decide +kernel
theorem dX12_pack_60 : decode cX12_pack 60 = .ok (.iload 4, 2) := by decide +kernel
theorem dX12_pack_62 : decode cX12_pack 62 = .ok (.iload_n 2, 1) := by decide +kernel
theorem dX12_pack_63 : decode cX12_pack 63 = .ok (.aload_n 0, 1) := by decide +kernel
theorem dX12_pack_64 : decode cX12_pack 64 = .ok (.getfield 319, 3) := by decide +kernel
theorem dX12_pack_67 : decode cX12_pack 67 = .ok (.irem, 1) := by decide +kernel
theorem dX12_pack_68 : decode cX12_pack 68 = .ok (.if_icmp .ge 7, 3) := by decide +kernel
theorem dX12_pack_71 : decode cX12_pack 71 = .ok (.iconst 1, 1) := by decide +kernel
theorem dX12_pack_72 : decode cX12_pack 72 = .ok (.goto 4, 3) := by decide +kernel
theorem dX12_pack_75 : decode cX12_pack 75 = .ok (.iconst 0, 1) := by decide +kernel
theorem dX12_pack_76 : decode cX12_pack 76 = .ok (.iadd, 1) := by decide +kernel
theorem dX12_pack_77 : decode cX12_pack 77 = .ok (.iastore, 1) := by decide +kernel
theorem dX12_pack_78 : decode cX12_pack 78 = .ok (.iinc 3 1, 3) := by decide +kernel
theorem dX12_pack_81 : decode cX12_pack 81 = .ok (.goto (-74), 3) := by decide +kernel
theorem dX12_pack_84 : decode cX12_pack 84 = .ok (.iload_n 1, 1) := by decide +kernel
theorem dX12_pack_85 : decode cX12_pack 85 = .ok (.iconst 2, 1) := by decide +kernel
theorem dX12_pack_86 : decode cX12_pack 86 = .ok (.if_icmp .ne 7, 3) := by decide +kernel
theorem dX12_pack_89 : decode cX12_pack 89 = .ok (.aload_n 0, 1) := by decide +kernel
theorem dX12_pack_90 : decode cX12_pack 90 = .ok (.invokevirtual 581, 3) := by decide +kernel
theorem dX12_pack_93 : decode cX12_pack 93 = .ok (.return_, 1) := by decide +kernel
theorem dX12_unevenBags_0 : decode cX12_unevenBags 0 = .ok (.aload_n 0, 1) := by decide +kernel
theorem dX12_unevenBags_1 : decode cX12_unevenBags 1 = .ok (.iload_n 1, 1) := by decide +kernel
theorem dX12_unevenBags_2 : decode cX12_unevenBags 2 = .ok (.invokevirtual 584, 3) := by decide +kernel
theorem dX12_unevenBags_5 : decode cX12_unevenBags 5 = .ok (.aload_n 0, 1) := by decide +kernel
theorem dX12_unevenBags_6 : decode cX12_unevenBags 6 = .ok (.getfield 90, 3) := by decide +kernel
theorem dX12_unevenBags_9 : decode cX12_unevenBags 9 = .ok (.iconst 0, 1) := by decide +kernel
theorem dX12_unevenBags_10 : decode cX12_unevenBags 10 = .ok (.iaload, 1) := by decide +kernel
theorem dX12_unevenBags_11 : decode cX12_unevenBags 11 = .ok (.istore_n 2, 1) := by decide +kernel
theorem dX12_unevenBags_12 : decode cX12_unevenBags 12 = .ok (.aload_n 0, 1) := by decide +kernel
theorem dX12_unevenBags_13 : decode cX12_unevenBags 13 = .ok (.getfield 90, 3) := by decide +kernel
theorem dX12_unevenBags_16 : decode cX12_unevenBags 16 = .ok (.iconst 0, 1) := by decide +kernel
theorem dX12_unevenBags_17 : decode cX12_unevenBags 17 = .ok (.iaload, 1) := by decide +kernel
theorem dX12_unevenBags_18 : decode cX12_unevenBags 18 = .ok (.istore_n 3, 1) := by decide +kernel
theorem dX12_unevenBags_19 : decode cX12_unevenBags 19 = .ok (.iconst 1, 1) := by decide +kernel
theorem dX12_unevenBags_20 : decode cX12_unevenBags 20 = .ok (.istore 4, 2) := by decide +kernel
theorem dX12_unevenBags_22 : decode cX12_unevenBags 22 = .ok (.iload 4, 2) := by decide +kernel
theorem dX12_unevenBags_24 : decode cX12_unevenBags 24 = .ok (.aload_n 0, 1) := by decide +kernel
theorem dX12_unevenBags_25 : decode cX12_unevenBags 25 = .ok (.getfield 319, 3) := by decide +kernel
theorem dX12_unevenBags_28 : decode cX12_unevenBags 28 = .ok (.if_icmp .ge 33, 3) := by decide +kernel
theorem dX12_unevenBags_31 : decode cX12_unevenBags 31 = .ok (.iload_n 2, 1) := by decide +kernel
theorem dX12_unevenBags_32 : decode cX12_unevenBags 32 = .ok (.aload_n 0, 1) := by decide +kernel
theorem dX12_unevenBags_33 : decode cX12_unevenBags 33 = .ok (.getfield 90, 3) := by decide +kernel
theorem dX12_unevenBags_36 : decode cX12_unevenBags 36 = .ok (.iload 4, 2) := by decide +kernel
theorem dX12_unevenBags_38 : decode cX12_unevenBags 38 = .ok (.iaload, 1) := by decide +kernel
theorem dX12_unevenBags_39 : decode cX12_unevenBags 39 = .ok (.invokestatic 381, 3) := by decide +kernel
theorem dX12_unevenBags_42 : decode cX12_unevenBags 42 = .ok (.istore_n 2, 1) := by decide +kernel
theorem dX12_unevenBags_43 : decode cX12_unevenBags 43 = .ok (.iload_n 3, 1) := by decide +kernel
theorem dX12_unevenBags_44 : decode cX12_unevenBags 44 = .ok (.aload_n 0, 1) := by decide +kernel
theorem dX12_unevenBags_45 : decode cX12_unevenBags 45 = .ok (.getfield 90, 3) := by decide +kernel
theorem dX12_unevenBags_48 : decode cX12_unevenBags 48 = .ok (.iload 4, 2) := by decide +kernel
theorem dX12_unevenBags_50 : decode cX12_unevenBags 50 = .ok (.iaload, 1) := by decide +kernel
theorem dX12_unevenBags_51 : decode cX12_unevenBags 51 = .ok (.invokestatic 167, 3) := by decide +kernel
theorem dX12_unevenBags_54 : decode cX12_unevenBags 54 = .ok (.istore_n 3, 1) := by decide +kernel
theorem dX12_unevenBags_55 : decode cX12_unevenBags 55 = .ok (.iinc 4 1, 3) := by decide +kernel
theorem dX12_unevenBags_58 : decode cX12_unevenBags 58 = .ok (.goto (-36), 3) := by decide +kernel
theorem dX12_unevenBags_61 : decode cX12_unevenBags 61 = .ok (.iload_n 3, 1) := by decide +kernel
theorem dX12_unevenBags_62 : decode cX12_unevenBags 62 = .ok (.iload_n 2, 1) := by decide +kernel
theorem dX12_unevenBags_63 : decode cX12_unevenBags 63 = .ok (.isub, 1) := by decide +kernel
theorem dX12_unevenBags_64 : decode cX12_unevenBags 64 = .ok (.ireturn, 1) := by decide +kernel
theorem dX12_just_0 : decode cX12_just 0 = .ok (.iconst 0, 1) := by decide +kernel
theorem dX12_just_1 : decode cX12_just 1 = .ok (.istore_n 1, 1) := by decide +kernel
theorem dX12_just_2 : decode cX12_just 2 = .ok (.iconst 1, 1) := by decide +kernel
theorem dX12_just_3 : decode cX12_just 3 = .ok (.istore_n 2, 1) := by decide +kernel
theorem dX12_just_4 : decode cX12_just 4 = .ok (.iload_n 2, 1) := by decide +kernel
theorem dX12_just_5 : decode cX12_just 5 = .ok (.iconst 4, 1) := by decide +kernel
theorem dX12_just_6 : decode cX12_just 6 = .ok (.if_icmp .ge 28, 3) := by decide +kernel
theorem dX12_just_9 : decode cX12_just 9 = .ok (.aload_n 0, 1) := by decide +kernel
theorem dX12_just_10 : decode cX12_just 10 = .ok (.iload_n 2, 1) := by decide +kernel
theorem dX12_just_11 : decode cX12_just 11 = .ok (.invokevirtual 587, 3) := by decide +kernel
theorem dX12_just_14 : decode cX12_just 14 = .ok (.aload_n 0, 1) := by decide +kernel
theorem dX12_just_15 : decode cX12_just 15 = .ok (.iload_n 1, 1) := by decide +kernel
theorem dX12_just_16 : decode cX12_just 16 = .ok (.invokevirtual 587, 3) := by decide +kernel
theorem dX12_just_19 : decode cX12_just 19 = .ok (.if_icmp .ge 7, 3) := by decide +kernel
theorem dX12_just_22 : decode cX12_just 22 = .ok (.iload_n 2, 1) := by decide +kernel
theorem dX12_just_23 : decode cX12_just 23 = .ok (.goto 4, 3) := by decide +kernel
theorem dX12_just_26 : decode cX12_just 26 = .ok (.iload_n 1, 1) := by decide +kernel
theorem dX12_just_27 : decode cX12_just 27 = .ok (.istore_n 1, 1) := by decide +kernel
theorem dX12_just_28 : decode cX12_just 28 = .ok (.iinc 2 1, 3) := by decide +kernel
theorem dX12_just_31 : decode cX12_just 31 = .ok (.goto (-27), 3) := by decide +kernel
theorem dX12_just_34 : decode cX12_just 34 = .ok (.iload_n 1, 1) := by decide +kernel
theorem dX12_just_35 : decode cX12_just 35 = .ok (.ireturn, 1) := by decide +kernel
theorem dX12_bag_0 : decode cX12_bag 0 = .ok (.aload_n 0, 1) := by decide +kernel
theorem dX12_bag_1 : decode cX12_bag 1 = .ok (.iconst 0, 1) := by decide +kernel
theorem dX12_bag_2 : decode cX12_bag 2 = .ok (.putfield 97, 3) := by decide +kernel
theorem dX12_bag_5 : decode cX12_bag 5 = .ok (.aload_n 0, 1) := by decide +kernel
theorem dX12_bag_6 : decode cX12_bag 6 = .ok (.iload_n 2, 1) := by decide +kernel
theorem dX12_bag_7 : decode cX12_bag 7 = .ok (.invokevirtual 572, 3) := by decide +kernel
theorem dX12_bag_10 : decode cX12_bag 10 = .ok (.ifCond .eq 43, 3) := by decide +kernel
theorem dX12_bag_13 : decode cX12_bag 13 = .ok (.aload_n 0, 1) := by decide +kernel
theorem dX12_bag_14 : decode cX12_bag 14 = .ok (.iload_n 1, 1) := by decide +kernel
theorem dX12_bag_15 : decode cX12_bag 15 = .ok (.iload_n 3, 1) := by decide +kernel
theorem dX12_bag_16 : decode cX12_bag 16 = .ok (.invokevirtual 533, 3) := by decide +kernel
theorem dX12_bag_19 : decode cX12_bag 19 = .ok (.ifCond .eq 34, 3) := by decide +kernel
theorem dX12_bag_22 : decode cX12_bag 22 = .ok (.iload 4, 2) := by decide +kernel
theorem dX12_bag_24 : decode cX12_bag 24 = .ok (.iconst (-1), 1) := by decide +kernel
theorem dX12_bag_25 : decode cX12_bag 25 = .ok (.iconst 3, 1) := by decide +kernel
theorem dX12_bag_26 : decode cX12_bag 26 = .ok (.invokestatic 105, 3) := by decide +kernel
theorem dX12_bag_29 : decode cX12_bag 29 = .ok (.ifCond .eq 24, 3) := by decide +kernel
theorem dX12_bag_32 : decode cX12_bag 32 = .ok (.iload 5, 2) := by decide +kernel
theorem dX12_bag_34 : decode cX12_bag 34 = .ok (.iconst (-1), 1) := by decide +kernel
theorem dX12_bag_35 : decode cX12_bag 35 = .ok (.if_icmp .eq 20, 3) := by decide +kernel
theorem dX12_bag_38 : decode cX12_bag 38 = .ok (.aload_n 0, 1) := by decide +kernel
theorem dX12_bag_39 : decode cX12_bag 39 = .ok (.iload 5, 2) := by decide +kernel
theorem dX12_bag_41 : decode cX12_bag 41 = .ok (.invokevirtual 331, 3) := by decide +kernel
theorem dX12_bag_44 : decode cX12_bag 44 = .ok (.ifCond .eq 9, 3) := by decide +kernel
theorem dX12_bag_47 : decode cX12_bag 47 = .ok (.iload 4, 2) := by decide +kernel
theorem dX12_bag_49 : decode cX12_bag 49 = .ok (.iconst (-1), 1) := by decide +kernel
theorem dX12_bag_50 : decode cX12_bag 50 = .ok (.if_icmp .ne 5, 3) := by decide +kernel
theorem dX12_bag_53 : decode cX12_bag 53 = .ok (.iconst (-1), 1) := by decide +kernel
theorem dX12_bag_54 : decode cX12_bag 54 = .ok (.ireturn, 1) := by decide +kernel
theorem dX12_bag_55 : decode cX12_bag 55 = .ok (.aload_n 0, 1) := by decide +kernel
theorem dX12_bag_56 : decode cX12_bag 56 = .ok (.invokevirtual 590, 3) := by decide +kernel
theorem dX12_bag_59 : decode cX12_bag 59 = .ok (.iload 4, 2) := by decide +kernel
theorem dX12_bag_61 : decode cX12_bag 61 = .ok (.iconst (-1), 1) := by decide +kernel
theorem dX12_bag_62 : decode cX12_bag 62 = .ok (.if_icmp .ne 8, 3) := by decide +kernel
theorem dX12_bag_65 : decode cX12_bag 65 = .ok (.aload_n 0, 1) := by decide +kernel
theorem dX12_bag_66 : decode cX12_bag 66 = .ok (.invokevirtual 593, 3) := by decide +kernel
theorem dX12_bag_69 : decode cX12_bag 69 = .ok (.ireturn, 1) := by decide +kernel
theorem dX12_bag_70 : decode cX12_bag 70 = .ok (.aload_n 0, 1) := by decide +kernel
theorem dX12_bag_71 : decode cX12_bag 71 = .ok (.iload 4, 2) := by decide +kernel
theorem dX12_bag_73 : decode cX12_bag 73 = .ok (.invokevirtual 587, 3) := by decide +kernel
theorem dX12_bag_76 : decode cX12_bag 76 = .ok (.istore 6, 2) := by decide +kernel
theorem dX12_bag_78 : decode cX12_bag 78 = .ok (.iload 5, 2) := by decide +kernel
theorem dX12_bag_80 : decode cX12_bag 80 = .ok (.iconst (-1), 1) := by decide +kernel
theorem dX12_bag_81 : decode cX12_bag 81 = .ok (.if_icmp .ne 8, 3) := by decide +kernel
theorem dX12_bag_84 : decode cX12_bag 84 = .ok (.iload 6, 2) := by decide +kernel
theorem dX12_bag_86 : decode cX12_bag 86 = .ok (.goto 10, 3) := by decide +kernel
theorem dX12_bag_89 : decode cX12_bag 89 = .ok (.aload_n 0, 1) := by decide +kernel
theorem dX12_bag_90 : decode cX12_bag 90 = .ok (.getfield 90, 3) := by decide +kernel
theorem dX12_bag_93 : decode cX12_bag 93 = .ok (.iload 5, 2) := by decide +kernel
theorem dX12_bag_95 : decode cX12_bag 95 = .ok (.iaload, 1) := by decide +kernel
theorem dX12_bag_96 : decode cX12_bag 96 = .ok (.ireturn, 1) := by decide +kernel
theorem dX12_ofRecord_0 : decode cX12_ofRecord 0 = .ok (.aload_n 0, 1) := by decide +kernel
theorem dX12_ofRecord_1 : decode cX12_ofRecord 1 = .ok (.getfield 38, 3) := by decide +kernel
theorem dX12_ofRecord_4 : decode cX12_ofRecord 4 = .ok (.bipush 97, 2) := by decide +kernel
theorem dX12_ofRecord_6 : decode cX12_ofRecord 6 = .ok (.aload_n 0, 1) := by decide +kernel
theorem dX12_ofRecord_7 : decode cX12_ofRecord 7 = .ok (.getfield 596, 3) := by decide +kernel
theorem dX12_ofRecord_10 : decode cX12_ofRecord 10 = .ok (.imul, 1) := by decide +kernel
theorem dX12_ofRecord_11 : decode cX12_ofRecord 11 = .ok (.iload_n 1, 1) := by decide +kernel
theorem dX12_ofRecord_12 : decode cX12_ofRecord 12 = .ok (.iadd, 1) := by decide +kernel
theorem dX12_ofRecord_13 : decode cX12_ofRecord 13 = .ok (.iaload, 1) := by decide +kernel
theorem dX12_ofRecord_14 : decode cX12_ofRecord 14 = .ok (.ireturn, 1) := by decide +kernel
theorem dX12_hasRecord_0 : decode cX12_hasRecord 0 = .ok (.aload_n 0, 1) := by decide +kernel
theorem dX12_hasRecord_1 : decode cX12_hasRecord 1 = .ok (.iload_n 1, 1) := by decide +kernel
theorem dX12_hasRecord_2 : decode cX12_hasRecord 2 = .ok (.putfield 596, 3) := by decide +kernel
theorem dX12_hasRecord_5 : decode cX12_hasRecord 5 = .ok (.aload_n 0, 1) := by decide +kernel
theorem dX12_hasRecord_6 : decode cX12_hasRecord 6 = .ok (.iconst 4, 1) := by decide +kernel
theorem dX12_hasRecord_7 : decode cX12_hasRecord 7 = .ok (.iload_n 1, 1) := by decide +kernel
theorem dX12_hasRecord_8 : decode cX12_hasRecord 8 = .ok (.invokevirtual 301, 3) := by decide +kernel
theorem dX12_hasRecord_11 : decode cX12_hasRecord 11 = .ok (.ireturn, 1) := by decide +kernel
theorem dX12_hits_0 : decode cX12_hits 0 = .ok (.iconst 0, 1) := by decide +kernel
theorem dX12_hits_1 : decode cX12_hits 1 = .ok (.istore_n 1, 1) := by decide +kernel
theorem dX12_hits_2 : decode cX12_hits 2 = .ok (.iconst 0, 1) := by decide +kernel
theorem dX12_hits_3 : decode cX12_hits 3 = .ok (.istore_n 2, 1) := by decide +kernel
theorem dX12_hits_4 : decode cX12_hits 4 = .ok (.iload_n 2, 1) := by decide +kernel
theorem dX12_hits_5 : decode cX12_hits 5 = .ok (.aload_n 0, 1) := by decide +kernel
theorem dX12_hits_6 : decode cX12_hits 6 = .ok (.iconst 1, 1) := by decide +kernel
theorem dX12_hits_7 : decode cX12_hits 7 = .ok (.invokevirtual 599, 3) := by decide +kernel
theorem dX12_hits_10 : decode cX12_hits 10 = .ok (.if_icmp .ge 20, 3) := by decide +kernel
theorem dX12_hits_13 : decode cX12_hits 13 = .ok (.iload_n 1, 1) := by decide +kernel
theorem dX12_hits_14 : decode cX12_hits 14 = .ok (.aload_n 0, 1) := by decide +kernel
theorem dX12_hits_15 : decode cX12_hits 15 = .ok (.bipush 82, 2) := by decide +kernel
theorem dX12_hits_17 : decode cX12_hits 17 = .ok (.iload_n 2, 1) := by decide +kernel
theorem dX12_hits_18 : decode cX12_hits 18 = .ok (.iadd, 1) := by decide +kernel
theorem dX12_hits_19 : decode cX12_hits 19 = .ok (.invokevirtual 599, 3) := by decide +kernel
theorem dX12_hits_22 : decode cX12_hits 22 = .ok (.iadd, 1) := by decide +kernel
theorem dX12_hits_23 : decode cX12_hits 23 = .ok (.istore_n 1, 1) := by decide +kernel
theorem dX12_hits_24 : decode cX12_hits 24 = .ok (.iinc 2 1, 3) := by decide +kernel
theorem dX12_hits_27 : decode cX12_hits 27 = .ok (.goto (-23), 3) := by decide +kernel
theorem dX12_hits_30 : decode cX12_hits 30 = .ok (.iload_n 1, 1) := by decide +kernel
theorem dX12_hits_31 : decode cX12_hits 31 = .ok (.ireturn, 1) := by decide +kernel
theorem dX12_shoutsOf_0 : decode cX12_shoutsOf 0 = .ok (.iconst 0, 1) := by decide +kernel
theorem dX12_shoutsOf_1 : decode cX12_shoutsOf 1 = .ok (.istore_n 3, 1) := by decide +kernel
theorem dX12_shoutsOf_2 : decode cX12_shoutsOf 2 = .ok (.iconst 0, 1) := by decide +kernel
theorem dX12_shoutsOf_3 : decode cX12_shoutsOf 3 = .ok (.istore 4, 2) := by decide +kernel
theorem dX12_shoutsOf_5 : decode cX12_shoutsOf 5 = .ok (.iload 4, 2) := by decide +kernel
theorem dX12_shoutsOf_7 : decode cX12_shoutsOf 7 = .ok (.aload_n 0, 1) := by decide +kernel
theorem dX12_shoutsOf_8 : decode cX12_shoutsOf 8 = .ok (.iconst 0, 1) := by decide +kernel
theorem dX12_shoutsOf_9 : decode cX12_shoutsOf 9 = .ok (.invokevirtual 599, 3) := by decide +kernel
theorem dX12_shoutsOf_12 : decode cX12_shoutsOf 12 = .ok (.if_icmp .ge 51, 3) := by decide +kernel
theorem dX12_shoutsOf_15 : decode cX12_shoutsOf 15 = .ok (.iload_n 3, 1) := by decide +kernel
theorem dX12_shoutsOf_16 : decode cX12_shoutsOf 16 = .ok (.aload_n 0, 1) := by decide +kernel
theorem dX12_shoutsOf_17 : decode cX12_shoutsOf 17 = .ok (.iconst 2, 1) := by decide +kernel
theorem dX12_shoutsOf_18 : decode cX12_shoutsOf 18 = .ok (.iconst 2, 1) := by decide +kernel
theorem dX12_shoutsOf_19 : decode cX12_shoutsOf 19 = .ok (.iload 4, 2) := by decide +kernel
theorem dX12_shoutsOf_21 : decode cX12_shoutsOf 21 = .ok (.imul, 1) := by decide +kernel
theorem dX12_shoutsOf_22 : decode cX12_shoutsOf 22 = .ok (.iadd, 1) := by decide +kernel
theorem dX12_shoutsOf_23 : decode cX12_shoutsOf 23 = .ok (.invokevirtual 599, 3) := by decide +kernel
theorem dX12_shoutsOf_26 : decode cX12_shoutsOf 26 = .ok (.iload_n 1, 1) := by decide +kernel
theorem dX12_shoutsOf_27 : decode cX12_shoutsOf 27 = .ok (.if_icmp .ne 27, 3) := by decide +kernel
theorem dX12_shoutsOf_30 : decode cX12_shoutsOf 30 = .ok (.iload_n 2, 1) := by decide +kernel
theorem dX12_shoutsOf_31 : decode cX12_shoutsOf 31 = .ok (.ifCond .eq 19, 3) := by decide +kernel
theorem dX12_shoutsOf_34 : decode cX12_shoutsOf 34 = .ok (.aload_n 0, 1) := by decide +kernel
theorem dX12_shoutsOf_35 : decode cX12_shoutsOf 35 = .ok (.iconst 2, 1) := by decide +kernel
theorem dX12_shoutsOf_36 : decode cX12_shoutsOf 36 = .ok (.iconst 2, 1) := by decide +kernel
theorem dX12_shoutsOf_37 : decode cX12_shoutsOf 37 = .ok (.iload 4, 2) := by decide +kernel
theorem dX12_shoutsOf_39 : decode cX12_shoutsOf 39 = .ok (.imul, 1) := by decide +kernel
theorem dX12_shoutsOf_40 : decode cX12_shoutsOf 40 = .ok (.iadd, 1) := by decide +kernel
theorem dX12_shoutsOf_41 : decode cX12_shoutsOf 41 = .ok (.iconst 1, 1) := by decide +kernel
theorem dX12_shoutsOf_42 : decode cX12_shoutsOf 42 = .ok (.iadd, 1) := by decide +kernel
theorem dX12_shoutsOf_43 : decode cX12_shoutsOf 43 = .ok (.invokevirtual 599, 3) := by decide +kernel
theorem dX12_shoutsOf_46 : decode cX12_shoutsOf 46 = .ok (.iconst 1, 1) := by decide +kernel
theorem dX12_shoutsOf_47 : decode cX12_shoutsOf 47 = .ok (.if_icmp .ne 7, 3) := by decide +kernel
theorem dX12_shoutsOf_50 : decode cX12_shoutsOf 50 = .ok (.iconst 1, 1) := by decide +kernel
theorem dX12_shoutsOf_51 : decode cX12_shoutsOf 51 = .ok (.goto 4, 3) := by decide +kernel
theorem dX12_shoutsOf_54 : decode cX12_shoutsOf 54 = .ok (.iconst 0, 1) := by decide +kernel
theorem dX12_shoutsOf_55 : decode cX12_shoutsOf 55 = .ok (.iadd, 1) := by decide +kernel
theorem dX12_shoutsOf_56 : decode cX12_shoutsOf 56 = .ok (.istore_n 3, 1) := by decide +kernel
theorem dX12_shoutsOf_57 : decode cX12_shoutsOf 57 = .ok (.iinc 4 1, 3) := by decide +kernel
theorem dX12_shoutsOf_60 : decode cX12_shoutsOf 60 = .ok (.goto (-55), 3) := by decide +kernel
theorem dX12_shoutsOf_63 : decode cX12_shoutsOf 63 = .ok (.iload_n 3, 1) := by decide +kernel
theorem dX12_shoutsOf_64 : decode cX12_shoutsOf 64 = .ok (.ireturn, 1) := by decide +kernel
theorem dX12_heldMost_0 : decode cX12_heldMost 0 = .ok (.iconst (-1), 1) := by decide +kernel
theorem dX12_heldMost_1 : decode cX12_heldMost 1 = .ok (.istore_n 1, 1) := by decide +kernel
theorem dX12_heldMost_2 : decode cX12_heldMost 2 = .ok (.iconst 0, 1) := by decide +kernel
theorem dX12_heldMost_3 : decode cX12_heldMost 3 = .ok (.istore_n 2, 1) := by decide +kernel
theorem dX12_heldMost_4 : decode cX12_heldMost 4 = .ok (.iload_n 2, 1) := by decide +kernel
theorem dX12_heldMost_5 : decode cX12_heldMost 5 = .ok (.bipush 8, 2) := by decide +kernel
theorem dX12_heldMost_7 : decode cX12_heldMost 7 = .ok (.if_icmp .ge 67, 3) := by decide +kernel
theorem dX12_heldMost_10 : decode cX12_heldMost 10 = .ok (.aload_n 0, 1) := by decide +kernel
theorem dX12_heldMost_11 : decode cX12_heldMost 11 = .ok (.iload_n 2, 1) := by decide +kernel
theorem dX12_heldMost_12 : decode cX12_heldMost 12 = .ok (.iconst 0, 1) := by decide +kernel
theorem dX12_heldMost_13 : decode cX12_heldMost 13 = .ok (.invokevirtual 602, 3) := by decide +kernel
theorem dX12_heldMost_16 : decode cX12_heldMost 16 = .ok (.istore_n 3, 1) := by decide +kernel
theorem dX12_heldMost_17 : decode cX12_heldMost 17 = .ok (.iload_n 3, 1) := by decide +kernel
theorem dX12_heldMost_18 : decode cX12_heldMost 18 = .ok (.ifCond .le 36, 3) := by decide +kernel
theorem dX12_heldMost_21 : decode cX12_heldMost 21 = .ok (.iload_n 1, 1) := by decide +kernel
theorem dX12_heldMost_22 : decode cX12_heldMost 22 = .ok (.iconst (-1), 1) := by decide +kernel
theorem dX12_heldMost_23 : decode cX12_heldMost 23 = .ok (.if_icmp .eq 27, 3) := by decide +kernel
theorem dX12_heldMost_26 : decode cX12_heldMost 26 = .ok (.aload_n 0, 1) := by decide +kernel
theorem dX12_heldMost_27 : decode cX12_heldMost 27 = .ok (.iload_n 2, 1) := by decide +kernel
theorem dX12_heldMost_28 : decode cX12_heldMost 28 = .ok (.iconst 1, 1) := by decide +kernel
theorem dX12_heldMost_29 : decode cX12_heldMost 29 = .ok (.invokevirtual 602, 3) := by decide +kernel
theorem dX12_heldMost_32 : decode cX12_heldMost 32 = .ok (.aload_n 0, 1) := by decide +kernel
theorem dX12_heldMost_33 : decode cX12_heldMost 33 = .ok (.iload_n 1, 1) := by decide +kernel
theorem dX12_heldMost_34 : decode cX12_heldMost 34 = .ok (.iconst 0, 1) := by decide +kernel
theorem dX12_heldMost_35 : decode cX12_heldMost 35 = .ok (.invokevirtual 602, 3) := by decide +kernel
theorem dX12_heldMost_38 : decode cX12_heldMost 38 = .ok (.imul, 1) := by decide +kernel
theorem dX12_heldMost_39 : decode cX12_heldMost 39 = .ok (.aload_n 0, 1) := by decide +kernel
theorem dX12_heldMost_40 : decode cX12_heldMost 40 = .ok (.iload_n 1, 1) := by decide +kernel
theorem dX12_heldMost_41 : decode cX12_heldMost 41 = .ok (.iconst 1, 1) := by decide +kernel
theorem dX12_heldMost_42 : decode cX12_heldMost 42 = .ok (.invokevirtual 602, 3) := by decide +kernel
theorem dX12_heldMost_45 : decode cX12_heldMost 45 = .ok (.iload_n 3, 1) := by decide +kernel
theorem dX12_heldMost_46 : decode cX12_heldMost 46 = .ok (.imul, 1) := by decide +kernel
theorem dX12_heldMost_47 : decode cX12_heldMost 47 = .ok (.if_icmp .le 7, 3) := by decide +kernel
theorem dX12_heldMost_50 : decode cX12_heldMost 50 = .ok (.iconst 1, 1) := by decide +kernel
theorem dX12_heldMost_51 : decode cX12_heldMost 51 = .ok (.goto 4, 3) := by decide +kernel
theorem dX12_heldMost_54 : decode cX12_heldMost 54 = .ok (.iconst 0, 1) := by decide +kernel
theorem dX12_heldMost_55 : decode cX12_heldMost 55 = .ok (.istore 4, 2) := by decide +kernel
theorem dX12_heldMost_57 : decode cX12_heldMost 57 = .ok (.iload 4, 2) := by decide +kernel
theorem dX12_heldMost_59 : decode cX12_heldMost 59 = .ok (.ifCond .eq 7, 3) := by decide +kernel
theorem dX12_heldMost_62 : decode cX12_heldMost 62 = .ok (.iload_n 2, 1) := by decide +kernel
theorem dX12_heldMost_63 : decode cX12_heldMost 63 = .ok (.goto 4, 3) := by decide +kernel
theorem dX12_heldMost_66 : decode cX12_heldMost 66 = .ok (.iload_n 1, 1) := by decide +kernel
theorem dX12_heldMost_67 : decode cX12_heldMost 67 = .ok (.istore_n 1, 1) := by decide +kernel
theorem dX12_heldMost_68 : decode cX12_heldMost 68 = .ok (.iinc 2 1, 3) := by decide +kernel
theorem dX12_heldMost_71 : decode cX12_heldMost 71 = .ok (.goto (-67), 3) := by decide +kernel
theorem dX12_heldMost_74 : decode cX12_heldMost 74 = .ok (.iload_n 1, 1) := by decide +kernel
theorem dX12_heldMost_75 : decode cX12_heldMost 75 = .ok (.ireturn, 1) := by decide +kernel
theorem dX12_record_0 : decode cX12_record 0 = .ok (.aload_n 0, 1) := by decide +kernel
theorem dX12_record_1 : decode cX12_record 1 = .ok (.iconst 0, 1) := by decide +kernel
theorem dX12_record_2 : decode cX12_record 2 = .ok (.putfield 97, 3) := by decide +kernel
theorem dX12_record_5 : decode cX12_record 5 = .ok (.aload_n 0, 1) := by decide +kernel
theorem dX12_record_6 : decode cX12_record 6 = .ok (.iload_n 1, 1) := by decide +kernel
theorem dX12_record_7 : decode cX12_record 7 = .ok (.invokevirtual 606, 3) := by decide +kernel
theorem dX12_record_10 : decode cX12_record 10 = .ok (.ifCond .ne 6, 3) := by decide +kernel
theorem dX12_record_13 : decode cX12_record 13 = .ok (.bipush (-2), 2) := by decide +kernel
theorem dX12_record_15 : decode cX12_record 15 = .ok (.ireturn, 1) := by decide +kernel
theorem dX12_record_16 : decode cX12_record 16 = .ok (.iload_n 2, 1) := by decide +kernel
theorem dX12_record_17 : decode cX12_record 17 = .ok (.bipush 10, 2) := by decide +kernel
theorem dX12_record_19 : decode cX12_record 19 = .ok (.bipush 9, 2) := by decide +kernel
theorem dX12_record_21 : decode cX12_record 21 = .ok (.aload_n 0, 1) := by decide +kernel
theorem dX12_record_22 : decode cX12_record 22 = .ok (.iconst 0, 1) := by decide +kernel
theorem dX12_record_23 : decode cX12_record 23 = .ok (.invokevirtual 599, 3) := by decide +kernel
theorem dX12_record_26 : decode cX12_record 26 = .ok (.iadd, 1) := by decide +kernel
theorem dX12_record_27 : decode cX12_record 27 = .ok (.invokestatic 105, 3) := by decide +kernel
theorem dX12_record_30 : decode cX12_record 30 = .ok (.ifCond .ne 20, 3) := by decide +kernel
theorem dX12_record_33 : decode cX12_record 33 = .ok (.iload_n 2, 1) := by decide +kernel
theorem dX12_record_34 : decode cX12_record 34 = .ok (.bipush 60, 2) := by decide +kernel
theorem dX12_record_36 : decode cX12_record 36 = .ok (.bipush 59, 2) := by decide +kernel
theorem dX12_record_38 : decode cX12_record 38 = .ok (.aload_n 0, 1) := by decide +kernel
theorem dX12_record_39 : decode cX12_record 39 = .ok (.iconst 0, 1) := by decide +kernel
theorem dX12_record_40 : decode cX12_record 40 = .ok (.invokevirtual 599, 3) := by decide +kernel
theorem dX12_record_43 : decode cX12_record 43 = .ok (.iadd, 1) := by decide +kernel
theorem dX12_record_44 : decode cX12_record 44 = .ok (.invokestatic 105, 3) := by decide +kernel
theorem dX12_record_47 : decode cX12_record 47 = .ok (.ifCond .eq 41, 3) := by decide +kernel
theorem dX12_record_50 : decode cX12_record 50 = .ok (.aload_n 0, 1) := by decide +kernel
theorem dX12_record_51 : decode cX12_record 51 = .ok (.iconst 2, 1) := by decide +kernel
theorem dX12_record_52 : decode cX12_record 52 = .ok (.iconst 2, 1) := by decide +kernel
theorem dX12_record_53 : decode cX12_record 53 = .ok (.iload_n 2, 1) := by decide +kernel
theorem dX12_record_54 : decode cX12_record 54 = .ok (.bipush 60, 2) := by decide +kernel
theorem dX12_record_56 : decode cX12_record 56 = .ok (.if_icmp .ge 10, 3) := by decide +kernel
theorem dX12_record_59 : decode cX12_record 59 = .ok (.iload_n 2, 1) := by decide +kernel
theorem dX12_record_60 : decode cX12_record 60 = .ok (.bipush 10, 2) := by decide +kernel
theorem dX12_record_62 : decode cX12_record 62 = .ok (.isub, 1) := by decide +kernel
theorem dX12_record_63 : decode cX12_record 63 = .ok (.goto 7, 3) := by decide +kernel
theorem dX12_record_66 : decode cX12_record 66 = .ok (.iload_n 2, 1) := by decide +kernel
theorem dX12_record_67 : decode cX12_record 67 = .ok (.bipush 60, 2) := by decide +kernel
theorem dX12_record_69 : decode cX12_record 69 = .ok (.isub, 1) := by decide +kernel
theorem dX12_record_70 : decode cX12_record 70 = .ok (.imul, 1) := by decide +kernel
theorem dX12_record_71 : decode cX12_record 71 = .ok (.iadd, 1) := by decide +kernel
theorem dX12_record_72 : decode cX12_record 72 = .ok (.iload_n 2, 1) := by decide +kernel
theorem dX12_record_73 : decode cX12_record 73 = .ok (.bipush 60, 2) := by decide +kernel
theorem dX12_record_75 : decode cX12_record 75 = .ok (.if_icmp .ge 7, 3) := by decide +kernel
theorem dX12_record_78 : decode cX12_record 78 = .ok (.iconst 0, 1) := by decide +kernel
theorem dX12_record_79 : decode cX12_record 79 = .ok (.goto 4, 3) := by decide +kernel
theorem dX12_record_82 : decode cX12_record 82 = .ok (.iconst 1, 1) := by decide +kernel
theorem dX12_record_83 : decode cX12_record 83 = .ok (.iadd, 1) := by decide +kernel
theorem dX12_record_84 : decode cX12_record 84 = .ok (.invokevirtual 599, 3) := by decide +kernel
theorem dX12_record_87 : decode cX12_record 87 = .ok (.ireturn, 1) := by decide +kernel
theorem dX12_record_88 : decode cX12_record 88 = .ok (.iload_n 2, 1) := by decide +kernel
theorem dX12_record_89 : decode cX12_record 89 = .ok (.bipush 110, 2) := by decide +kernel
theorem dX12_record_91 : decode cX12_record 91 = .ok (.bipush 109, 2) := by decide +kernel
theorem dX12_record_93 : decode cX12_record 93 = .ok (.aload_n 0, 1) := by decide +kernel
theorem dX12_record_94 : decode cX12_record 94 = .ok (.iconst 1, 1) := by decide +kernel
theorem dX12_record_95 : decode cX12_record 95 = .ok (.invokevirtual 599, 3) := by decide +kernel
theorem dX12_record_98 : decode cX12_record 98 = .ok (.iadd, 1) := by decide +kernel
theorem dX12_record_99 : decode cX12_record 99 = .ok (.invokestatic 105, 3) := by decide +kernel
theorem dX12_record_102 : decode cX12_record 102 = .ok (.ifCond .eq 15, 3) := by decide +kernel
theorem dX12_record_105 : decode cX12_record 105 = .ok (.aload_n 0, 1) := by decide +kernel
theorem dX12_record_106 : decode cX12_record 106 = .ok (.bipush 82, 2) := by decide +kernel
theorem dX12_record_108 : decode cX12_record 108 = .ok (.iload_n 2, 1) := by decide +kernel
theorem dX12_record_109 : decode cX12_record 109 = .ok (.iadd, 1) := by decide +kernel
theorem dX12_record_110 : decode cX12_record 110 = .ok (.bipush 110, 2) := by decide +kernel
theorem dX12_record_112 : decode cX12_record 112 = .ok (.isub, 1) := by decide +kernel
theorem dX12_record_113 : decode cX12_record 113 = .ok (.invokevirtual 599, 3) := by decide +kernel
theorem dX12_record_116 : decode cX12_record 116 = .ok (.ireturn, 1) := by decide +kernel
theorem dX12_record_117 : decode cX12_record 117 = .ok (.iload_n 2, 1) := by decide +kernel
theorem dX12_record_118 : decode cX12_record 118 = .ok (.iconst 0, 1) := by decide +kernel
theorem dX12_record_119 : decode cX12_record 119 = .ok (.iconst 1, 1) := by decide +kernel
theorem dX12_record_120 : decode cX12_record 120 = .ok (.invokestatic 105, 3) := by decide +kernel
theorem dX12_record_123 : decode cX12_record 123 = .ok (.ifCond .eq 11, 3) := by decide +kernel
theorem dX12_record_126 : decode cX12_record 126 = .ok (.aload_n 0, 1) := by decide +kernel
theorem dX12_record_127 : decode cX12_record 127 = .ok (.iload_n 2, 1) := by decide +kernel
theorem dX12_record_128 : decode cX12_record 128 = .ok (.invokevirtual 599, 3) := by decide +kernel
theorem dX12_record_131 : decode cX12_record 131 = .ok (.goto 29, 3) := by decide +kernel
theorem dX12_record_134 : decode cX12_record 134 = .ok (.iload_n 2, 1) := by decide +kernel
theorem dX12_record_135 : decode cX12_record 135 = .ok (.iconst 2, 1) := by decide +kernel
theorem dX12_record_136 : decode cX12_record 136 = .ok (.if_icmp .ne 10, 3) := by decide +kernel
theorem dX12_record_139 : decode cX12_record 139 = .ok (.aload_n 0, 1) := by decide +kernel
theorem dX12_record_140 : decode cX12_record 140 = .ok (.invokevirtual 609, 3) := by decide +kernel
theorem dX12_record_143 : decode cX12_record 143 = .ok (.goto 17, 3) := by decide +kernel
theorem dX12_record_146 : decode cX12_record 146 = .ok (.iload_n 2, 1) := by decide +kernel
theorem dX12_record_147 : decode cX12_record 147 = .ok (.iconst 3, 1) := by decide +kernel
theorem dX12_record_148 : decode cX12_record 148 = .ok (.if_icmp .ne 10, 3) := by decide +kernel
theorem dX12_record_151 : decode cX12_record 151 = .ok (.aload_n 0, 1) := by decide +kernel
theorem dX12_record_152 : decode cX12_record 152 = .ok (.invokevirtual 612, 3) := by decide +kernel
theorem dX12_record_155 : decode cX12_record 155 = .ok (.goto 5, 3) := by decide +kernel
theorem dX12_record_158 : decode cX12_record 158 = .ok (.bipush (-2), 2) := by decide +kernel
theorem dX12_record_160 : decode cX12_record 160 = .ok (.ireturn, 1) := by decide +kernel
theorem dX12_trust_0 : decode cX12_trust 0 = .ok (.aload_n 0, 1) := by decide +kernel
theorem dX12_trust_1 : decode cX12_trust 1 = .ok (.iconst 0, 1) := by decide +kernel
theorem dX12_trust_2 : decode cX12_trust 2 = .ok (.putfield 97, 3) := by decide +kernel
theorem dX12_trust_5 : decode cX12_trust 5 = .ok (.aload_n 0, 1) := by decide +kernel
theorem dX12_trust_6 : decode cX12_trust 6 = .ok (.iload_n 1, 1) := by decide +kernel
theorem dX12_trust_7 : decode cX12_trust 7 = .ok (.invokevirtual 606, 3) := by decide +kernel
theorem dX12_trust_10 : decode cX12_trust 10 = .ok (.ifCond .eq 12, 3) := by decide +kernel
theorem dX12_trust_13 : decode cX12_trust 13 = .ok (.aload_n 0, 1) := by decide +kernel
theorem dX12_trust_14 : decode cX12_trust 14 = .ok (.iload_n 2, 1) := by decide +kernel
theorem dX12_trust_15 : decode cX12_trust 15 = .ok (.iconst 0, 1) := by decide +kernel
theorem dX12_trust_16 : decode cX12_trust 16 = .ok (.invokevirtual 602, 3) := by decide +kernel
theorem dX12_trust_19 : decode cX12_trust 19 = .ok (.ifCond .ne 5, 3) := by decide +kernel
theorem dX12_trust_22 : decode cX12_trust 22 = .ok (.iconst (-1), 1) := by decide +kernel
theorem dX12_trust_23 : decode cX12_trust 23 = .ok (.ireturn, 1) := by decide +kernel
theorem dX12_trust_24 : decode cX12_trust 24 = .ok (.aload_n 0, 1) := by decide +kernel
theorem dX12_trust_25 : decode cX12_trust 25 = .ok (.iload_n 2, 1) := by decide +kernel
theorem dX12_trust_26 : decode cX12_trust 26 = .ok (.iconst 1, 1) := by decide +kernel
theorem dX12_trust_27 : decode cX12_trust 27 = .ok (.invokevirtual 602, 3) := by decide +kernel
theorem dX12_trust_30 : decode cX12_trust 30 = .ok (.i2l, 1) := by decide +kernel
theorem dX12_trust_31 : decode cX12_trust 31 = .ok (.aload_n 0, 1) := by decide +kernel
theorem dX12_trust_32 : decode cX12_trust 32 = .ok (.iload_n 2, 1) := by decide +kernel
theorem dX12_trust_33 : decode cX12_trust 33 = .ok (.iconst 0, 1) := by decide +kernel
theorem dX12_trust_34 : decode cX12_trust 34 = .ok (.invokevirtual 602, 3) := by decide +kernel
theorem dX12_trust_37 : decode cX12_trust 37 = .ok (.i2l, 1) := by decide +kernel
theorem dX12_trust_38 : decode cX12_trust 38 = .ok (.iload_n 3, 1) := by decide +kernel
theorem dX12_trust_39 : decode cX12_trust 39 = .ok (.invokestatic 455, 3) := by decide +kernel
theorem dX12_trust_42 : decode cX12_trust 42 = .ok (.l2i, 1) := by decide +kernel
theorem dX12_trust_43 : decode cX12_trust 43 = .ok (.ireturn, 1) := by decide +kernel
theorem dX12_power_0 : decode cX12_power 0 = .ok (.lconst 1, 1) := by decide +kernel
theorem dX12_power_1 : decode cX12_power 1 = .ok (.lstore_n 2, 1) := by decide +kernel
theorem dX12_power_2 : decode cX12_power 2 = .ok (.iconst 0, 1) := by decide +kernel
theorem dX12_power_3 : decode cX12_power 3 = .ok (.istore 4, 2) := by decide +kernel
theorem dX12_power_5 : decode cX12_power 5 = .ok (.iload 4, 2) := by decide +kernel
theorem dX12_power_7 : decode cX12_power 7 = .ok (.iload_n 1, 1) := by decide +kernel
theorem dX12_power_8 : decode cX12_power 8 = .ok (.if_icmp .ge 14, 3) := by decide +kernel
theorem dX12_power_11 : decode cX12_power 11 = .ok (.lload_n 2, 1) := by decide +kernel
theorem dX12_power_12 : decode cX12_power 12 = .ok (.iload_n 0, 1) := by decide +kernel
theorem dX12_power_13 : decode cX12_power 13 = .ok (.i2l, 1) := by decide +kernel
theorem dX12_power_14 : decode cX12_power 14 = .ok (.lmul, 1) := by decide +kernel
theorem dX12_power_15 : decode cX12_power 15 = .ok (.lstore_n 2, 1) := by decide +kernel
theorem dX12_power_16 : decode cX12_power 16 = .ok (.iinc 4 1, 3) := by decide +kernel
theorem dX12_power_19 : decode cX12_power 19 = .ok (.goto (-14), 3) := by decide +kernel
theorem dX12_power_22 : decode cX12_power 22 = .ok (.lload_n 2, 1) := by decide +kernel
theorem dX12_power_23 : decode cX12_power 23 = .ok (.lreturn, 1) := by decide +kernel
theorem dX12_peeped_0 : decode cX12_peeped 0 = .ok (.aload_n 0, 1) := by decide +kernel
theorem dX12_peeped_1 : decode cX12_peeped 1 = .ok (.iconst 0, 1) := by decide +kernel
theorem dX12_peeped_2 : decode cX12_peeped 2 = .ok (.putfield 97, 3) := by decide +kernel
theorem dX12_peeped_5 : decode cX12_peeped 5 = .ok (.iload_n 2, 1) := by decide +kernel
theorem dX12_peeped_6 : decode cX12_peeped 6 = .ok (.iconst 0, 1) := by decide +kernel
theorem dX12_peeped_7 : decode cX12_peeped 7 = .ok (.bipush 10, 2) := by decide +kernel
theorem dX12_peeped_9 : decode cX12_peeped 9 = .ok (.invokestatic 105, 3) := by decide +kernel
theorem dX12_peeped_12 : decode cX12_peeped 12 = .ok (.ifCond .eq 21, 3) := by decide +kernel
theorem dX12_peeped_15 : decode cX12_peeped 15 = .ok (.iload_n 3, 1) := by decide +kernel
theorem dX12_peeped_16 : decode cX12_peeped 16 = .ok (.iconst 0, 1) := by decide +kernel
theorem dX12_peeped_17 : decode cX12_peeped 17 = .ok (.bipush 10, 2) := by decide +kernel
theorem dX12_peeped_19 : decode cX12_peeped 19 = .ok (.invokestatic 105, 3) := by decide +kernel
theorem dX12_peeped_22 : decode cX12_peeped 22 = .ok (.ifCond .eq 11, 3) := by decide +kernel
theorem dX12_peeped_25 : decode cX12_peeped 25 = .ok (.aload_n 0, 1) := by decide +kernel
theorem dX12_peeped_26 : decode cX12_peeped 26 = .ok (.iload_n 1, 1) := by decide +kernel
theorem dX12_peeped_27 : decode cX12_peeped 27 = .ok (.invokevirtual 606, 3) := by decide +kernel
theorem dX12_peeped_30 : decode cX12_peeped 30 = .ok (.ifCond .ne 7, 3) := by decide +kernel
theorem dX12_peeped_33 : decode cX12_peeped 33 = .ok (.ldc2_w 459, 3) := by decide +kernel
theorem dX12_peeped_36 : decode cX12_peeped 36 = .ok (.lreturn, 1) := by decide +kernel
theorem dX12_peeped_37 : decode cX12_peeped 37 = .ok (.aload_n 0, 1) := by decide +kernel
theorem dX12_peeped_38 : decode cX12_peeped 38 = .ok (.invokevirtual 609, 3) := by decide +kernel
theorem dX12_peeped_41 : decode cX12_peeped 41 = .ok (.istore 5, 2) := by decide +kernel
theorem dX12_peeped_43 : decode cX12_peeped 43 = .ok (.aload_n 0, 1) := by decide +kernel
theorem dX12_peeped_44 : decode cX12_peeped 44 = .ok (.iconst 1, 1) := by decide +kernel
theorem dX12_peeped_45 : decode cX12_peeped 45 = .ok (.invokevirtual 599, 3) := by decide +kernel
theorem dX12_peeped_48 : decode cX12_peeped 48 = .ok (.iload 5, 2) := by decide +kernel
theorem dX12_peeped_50 : decode cX12_peeped 50 = .ok (.isub, 1) := by decide +kernel
theorem dX12_peeped_51 : decode cX12_peeped 51 = .ok (.istore 6, 2) := by decide +kernel
theorem dX12_peeped_53 : decode cX12_peeped 53 = .ok (.iload_n 2, 1) := by decide +kernel
theorem dX12_peeped_54 : decode cX12_peeped 54 = .ok (.iload 5, 2) := by decide +kernel
theorem dX12_peeped_56 : decode cX12_peeped 56 = .ok (.invokestatic 615, 3) := by decide +kernel
theorem dX12_peeped_59 : decode cX12_peeped 59 = .ok (.bipush 10, 2) := by decide +kernel
theorem dX12_peeped_61 : decode cX12_peeped 61 = .ok (.iload_n 2, 1) := by decide +kernel
theorem dX12_peeped_62 : decode cX12_peeped 62 = .ok (.isub, 1) := by decide +kernel
theorem dX12_peeped_63 : decode cX12_peeped 63 = .ok (.iload 6, 2) := by decide +kernel
theorem dX12_peeped_65 : decode cX12_peeped 65 = .ok (.invokestatic 615, 3) := by decide +kernel
theorem dX12_peeped_68 : decode cX12_peeped 68 = .ok (.lmul, 1) := by decide +kernel
theorem dX12_peeped_69 : decode cX12_peeped 69 = .ok (.lstore 7, 2) := by decide +kernel
theorem dX12_peeped_71 : decode cX12_peeped 71 = .ok (.iload_n 3, 1) := by decide +kernel
theorem dX12_peeped_72 : decode cX12_peeped 72 = .ok (.iload 5, 2) := by decide +kernel
theorem dX12_peeped_74 : decode cX12_peeped 74 = .ok (.invokestatic 615, 3) := by decide +kernel
theorem dX12_peeped_77 : decode cX12_peeped 77 = .ok (.bipush 10, 2) := by decide +kernel
theorem dX12_peeped_79 : decode cX12_peeped 79 = .ok (.iload_n 3, 1) := by decide +kernel
theorem dX12_peeped_80 : decode cX12_peeped 80 = .ok (.isub, 1) := by decide +kernel
theorem dX12_peeped_81 : decode cX12_peeped 81 = .ok (.iload 6, 2) := by decide +kernel
theorem dX12_peeped_83 : decode cX12_peeped 83 = .ok (.invokestatic 615, 3) := by decide +kernel
theorem dX12_peeped_86 : decode cX12_peeped 86 = .ok (.lmul, 1) := by decide +kernel
theorem dX12_peeped_87 : decode cX12_peeped 87 = .ok (.lstore 9, 2) := by decide +kernel
theorem dX12_peeped_89 : decode cX12_peeped 89 = .ok (.lload 7, 2) := by decide +kernel
theorem dX12_peeped_91 : decode cX12_peeped 91 = .ok (.lload 9, 2) := by decide +kernel
theorem dX12_peeped_93 : decode cX12_peeped 93 = .ok (.ladd, 1) := by decide +kernel
theorem dX12_peeped_94 : decode cX12_peeped 94 = .ok (.lconst 0, 1) := by decide +kernel
theorem dX12_peeped_95 : decode cX12_peeped 95 = .ok (.lcmp, 1) := by decide +kernel
theorem dX12_peeped_96 : decode cX12_peeped 96 = .ok (.ifCond .ne 9, 3) := by decide +kernel
theorem dX12_peeped_99 : decode cX12_peeped 99 = .ok (.ldc2_w 459, 3) := by decide +kernel
theorem dX12_peeped_102 : decode cX12_peeped 102 = .ok (.goto 15, 3) := by decide +kernel
theorem dX12_peeped_105 : decode cX12_peeped 105 = .ok (.lload 9, 2) := by decide +kernel
theorem dX12_peeped_107 : decode cX12_peeped 107 = .ok (.lload 7, 2) := by decide +kernel
theorem dX12_peeped_109 : decode cX12_peeped 109 = .ok (.lload 9, 2) := by decide +kernel
theorem dX12_peeped_111 : decode cX12_peeped 111 = .ok (.ladd, 1) := by decide +kernel
theorem dX12_peeped_112 : decode cX12_peeped 112 = .ok (.iload 4, 2) := by decide +kernel
theorem dX12_peeped_114 : decode cX12_peeped 114 = .ok (.invokestatic 455, 3) := by decide +kernel
theorem dX12_peeped_117 : decode cX12_peeped 117 = .ok (.lreturn, 1) := by decide +kernel
theorem dX12_many_0 : decode cX12_many 0 = .ok (.aload_n 0, 1) := by decide +kernel
theorem dX12_many_1 : decode cX12_many 1 = .ok (.iconst 0, 1) := by decide +kernel
theorem dX12_many_2 : decode cX12_many 2 = .ok (.putfield 97, 3) := by decide +kernel
theorem dX12_many_5 : decode cX12_many 5 = .ok (.iload_n 1, 1) := by decide +kernel
theorem dX12_many_6 : decode cX12_many 6 = .ok (.iconst 0, 1) := by decide +kernel
theorem dX12_many_7 : decode cX12_many 7 = .ok (.bipush 10, 2) := by decide +kernel
theorem dX12_many_9 : decode cX12_many 9 = .ok (.invokestatic 105, 3) := by decide +kernel
theorem dX12_many_12 : decode cX12_many 12 = .ok (.ifCond .eq 23, 3) := by decide +kernel
theorem dX12_many_15 : decode cX12_many 15 = .ok (.iload_n 2, 1) := by decide +kernel
theorem dX12_many_16 : decode cX12_many 16 = .ok (.iconst 0, 1) := by decide +kernel
theorem dX12_many_17 : decode cX12_many 17 = .ok (.bipush 10, 2) := by decide +kernel
theorem dX12_many_19 : decode cX12_many 19 = .ok (.invokestatic 105, 3) := by decide +kernel
theorem dX12_many_22 : decode cX12_many 22 = .ok (.ifCond .eq 13, 3) := by decide +kernel
theorem dX12_many_25 : decode cX12_many 25 = .ok (.iload_n 3, 1) := by decide +kernel
theorem dX12_many_26 : decode cX12_many 26 = .ok (.iconst 0, 1) := by decide +kernel
theorem dX12_many_27 : decode cX12_many 27 = .ok (.bipush 100, 2) := by decide +kernel
theorem dX12_many_29 : decode cX12_many 29 = .ok (.invokestatic 105, 3) := by decide +kernel
theorem dX12_many_32 : decode cX12_many 32 = .ok (.ifCond .ne 5, 3) := by decide +kernel
theorem dX12_many_35 : decode cX12_many 35 = .ok (.iconst (-1), 1) := by decide +kernel
theorem dX12_many_36 : decode cX12_many 36 = .ok (.ireturn, 1) := by decide +kernel
theorem dX12_many_37 : decode cX12_many 37 = .ok (.iconst 0, 1) := by decide +kernel
theorem dX12_many_38 : decode cX12_many 38 = .ok (.istore 4, 2) := by decide +kernel
theorem dX12_many_40 : decode cX12_many 40 = .ok (.iload 4, 2) := by decide +kernel
theorem dX12_many_42 : decode cX12_many 42 = .ok (.bipush 15, 2) := by decide +kernel
theorem dX12_many_44 : decode cX12_many 44 = .ok (.if_icmp .gt 56, 3) := by decide +kernel
theorem dX12_many_47 : decode cX12_many 47 = .ok (.iload_n 1, 1) := by decide +kernel
theorem dX12_many_48 : decode cX12_many 48 = .ok (.iload 4, 2) := by decide +kernel
theorem dX12_many_50 : decode cX12_many 50 = .ok (.invokestatic 615, 3) := by decide +kernel
theorem dX12_many_53 : decode cX12_many 53 = .ok (.lstore 5, 2) := by decide +kernel
theorem dX12_many_55 : decode cX12_many 55 = .ok (.iload_n 2, 1) := by decide +kernel
theorem dX12_many_56 : decode cX12_many 56 = .ok (.iload 4, 2) := by decide +kernel
theorem dX12_many_58 : decode cX12_many 58 = .ok (.invokestatic 615, 3) := by decide +kernel
theorem dX12_many_61 : decode cX12_many 61 = .ok (.lstore 7, 2) := by decide +kernel
theorem dX12_many_63 : decode cX12_many 63 = .ok (.lload 5, 2) := by decide +kernel
theorem dX12_many_65 : decode cX12_many 65 = .ok (.lload 7, 2) := by decide +kernel
theorem dX12_many_67 : decode cX12_many 67 = .ok (.ladd, 1) := by decide +kernel
theorem dX12_many_68 : decode cX12_many 68 = .ok (.lconst 0, 1) := by decide +kernel
theorem dX12_many_69 : decode cX12_many 69 = .ok (.lcmp, 1) := by decide +kernel
theorem dX12_many_70 : decode cX12_many 70 = .ok (.ifCond .le 24, 3) := by decide +kernel
theorem dX12_many_73 : decode cX12_many 73 = .ok (.ldc2_w 618, 3) := by decide +kernel
theorem dX12_many_76 : decode cX12_many 76 = .ok (.lload 7, 2) := by decide +kernel
theorem dX12_many_78 : decode cX12_many 78 = .ok (.lmul, 1) := by decide +kernel
theorem dX12_many_79 : decode cX12_many 79 = .ok (.iload_n 3, 1) := by decide +kernel
theorem dX12_many_80 : decode cX12_many 80 = .ok (.i2l, 1) := by decide +kernel
theorem dX12_many_81 : decode cX12_many 81 = .ok (.lload 5, 2) := by decide +kernel
theorem dX12_many_83 : decode cX12_many 83 = .ok (.lload 7, 2) := by decide +kernel
theorem dX12_many_85 : decode cX12_many 85 = .ok (.ladd, 1) := by decide +kernel
theorem dX12_many_86 : decode cX12_many 86 = .ok (.lmul, 1) := by decide +kernel
theorem dX12_many_87 : decode cX12_many 87 = .ok (.lcmp, 1) := by decide +kernel
theorem dX12_many_88 : decode cX12_many 88 = .ok (.ifCond .lt 6, 3) := by decide +kernel
theorem dX12_many_91 : decode cX12_many 91 = .ok (.iload 4, 2) := by decide +kernel
theorem dX12_many_93 : decode cX12_many 93 = .ok (.ireturn, 1) := by decide +kernel
theorem dX12_many_94 : decode cX12_many 94 = .ok (.iinc 4 1, 3) := by decide +kernel
theorem dX12_many_97 : decode cX12_many 97 = .ok (.goto (-57), 3) := by decide +kernel
theorem dX12_many_100 : decode cX12_many 100 = .ok (.iconst (-1), 1) := by decide +kernel
theorem dX12_many_101 : decode cX12_many 101 = .ok (.ireturn, 1) := by decide +kernel
theorem dX12_draw_0 : decode cX12_draw 0 = .ok (.aload_n 0, 1) := by decide +kernel
theorem dX12_draw_1 : decode cX12_draw 1 = .ok (.aload_n 0, 1) := by decide +kernel
theorem dX12_draw_2 : decode cX12_draw 2 = .ok (.getfield 620, 3) := by decide +kernel
theorem dX12_draw_5 : decode cX12_draw 5 = .ok (.ldc_w 623, 3) := by decide +kernel
theorem dX12_draw_8 : decode cX12_draw 8 = .ok (.imul, 1) := by decide +kernel
theorem dX12_draw_9 : decode cX12_draw 9 = .ok (.sipush 12345, 3) := by decide +kernel
theorem dX12_draw_12 : decode cX12_draw 12 = .ok (.iadd, 1) := by decide +kernel
theorem dX12_draw_13 : decode cX12_draw 13 = .ok (.putfield 620, 3) := by decide +kernel
theorem dX12_draw_16 : decode cX12_draw 16 = .ok (.aload_n 0, 1) := by decide +kernel
theorem dX12_draw_17 : decode cX12_draw 17 = .ok (.getfield 620, 3) := by decide +kernel
theorem dX12_draw_20 : decode cX12_draw 20 = .ok (.bipush 16, 2) := by decide +kernel
theorem dX12_draw_22 : decode cX12_draw 22 = .ok (.iushr, 1) := by decide +kernel
theorem dX12_draw_23 : decode cX12_draw 23 = .ok (.iload_n 1, 1) := by decide +kernel
theorem dX12_draw_24 : decode cX12_draw 24 = .ok (.irem, 1) := by decide +kernel
theorem dX12_draw_25 : decode cX12_draw 25 = .ok (.ireturn, 1) := by decide +kernel
theorem dX12_drawChild_0 : decode cX12_drawChild 0 = .ok (.aload_n 0, 1) := by decide +kernel
theorem dX12_drawChild_1 : decode cX12_drawChild 1 = .ok (.iload_n 1, 1) := by decide +kernel
theorem dX12_drawChild_2 : decode cX12_drawChild 2 = .ok (.iconst 0, 1) := by decide +kernel
theorem dX12_drawChild_3 : decode cX12_drawChild 3 = .ok (.invokevirtual 334, 3) := by decide +kernel
theorem dX12_drawChild_6 : decode cX12_drawChild 6 = .ok (.aload_n 0, 1) := by decide +kernel
theorem dX12_drawChild_7 : decode cX12_drawChild 7 = .ok (.getfield 325, 3) := by decide +kernel
theorem dX12_drawChild_10 : decode cX12_drawChild 10 = .ok (.if_icmp .lt 7, 3) := by decide +kernel
theorem dX12_drawChild_13 : decode cX12_drawChild 13 = .ok (.iconst 1, 1) := by decide +kernel
theorem dX12_drawChild_14 : decode cX12_drawChild 14 = .ok (.goto 4, 3) := by decide +kernel
theorem dX12_drawChild_17 : decode cX12_drawChild 17 = .ok (.iconst 0, 1) := by decide +kernel
theorem dX12_drawChild_18 : decode cX12_drawChild 18 = .ok (.istore_n 2, 1) := by decide +kernel
theorem dX12_drawChild_19 : decode cX12_drawChild 19 = .ok (.iconst 0, 1) := by decide +kernel
theorem dX12_drawChild_20 : decode cX12_drawChild 20 = .ok (.istore_n 3, 1) := by decide +kernel
theorem dX12_drawChild_21 : decode cX12_drawChild 21 = .ok (.iload_n 3, 1) := by decide +kernel
theorem dX12_drawChild_22 : decode cX12_drawChild 22 = .ok (.aload_n 0, 1) := by decide +kernel
theorem dX12_drawChild_23 : decode cX12_drawChild 23 = .ok (.getfield 322, 3) := by decide +kernel
theorem dX12_drawChild_26 : decode cX12_drawChild 26 = .ok (.if_icmp .ge 75, 3) := by decide +kernel
theorem dX12_drawChild_29 : decode cX12_drawChild 29 = .ok (.aload_n 0, 1) := by decide +kernel
theorem dX12_drawChild_30 : decode cX12_drawChild 30 = .ok (.dup, 1) := by decide +kernel
theorem dX12_drawChild_31 : decode cX12_drawChild 31 = .ok (.getfield 624, 3) := by decide +kernel
theorem dX12_drawChild_34 : decode cX12_drawChild 34 = .ok (.iconst 1, 1) := by decide +kernel
theorem dX12_drawChild_35 : decode cX12_drawChild 35 = .ok (.iadd, 1) := by decide +kernel
theorem dX12_drawChild_36 : decode cX12_drawChild 36 = .ok (.putfield 624, 3) := by decide +kernel
theorem dX12_drawChild_39 : decode cX12_drawChild 39 = .ok (.aload_n 0, 1) := by decide +kernel
theorem dX12_drawChild_40 : decode cX12_drawChild 40 = .ok (.bipush 10, 2) := by decide +kernel
theorem dX12_drawChild_42 : decode cX12_drawChild 42 = .ok (.invokevirtual 627, 3) := by decide +kernel
theorem dX12_drawChild_45 : decode cX12_drawChild 45 = .ok (.aload_n 0, 1) := by decide +kernel
theorem dX12_drawChild_46 : decode cX12_drawChild 46 = .ok (.iload_n 1, 1) := by decide +kernel
theorem dX12_drawChild_47 : decode cX12_drawChild 47 = .ok (.iconst 2, 1) := by decide +kernel
theorem dX12_drawChild_48 : decode cX12_drawChild 48 = .ok (.invokevirtual 334, 3) := by decide +kernel
theorem dX12_drawChild_51 : decode cX12_drawChild 51 = .ok (.if_icmp .ge 35, 3) := by decide +kernel
theorem dX12_drawChild_54 : decode cX12_drawChild 54 = .ok (.aload_n 0, 1) := by decide +kernel
theorem dX12_drawChild_55 : decode cX12_drawChild 55 = .ok (.dup, 1) := by decide +kernel
theorem dX12_drawChild_56 : decode cX12_drawChild 56 = .ok (.getfield 630, 3) := by decide +kernel
theorem dX12_drawChild_59 : decode cX12_drawChild 59 = .ok (.iload_n 2, 1) := by decide +kernel
theorem dX12_drawChild_60 : decode cX12_drawChild 60 = .ok (.ifCond .eq 7, 3) := by decide +kernel
theorem dX12_drawChild_63 : decode cX12_drawChild 63 = .ok (.iconst 0, 1) := by decide +kernel
theorem dX12_drawChild_64 : decode cX12_drawChild 64 = .ok (.goto 16, 3) := by decide +kernel
theorem dX12_drawChild_67 : decode cX12_drawChild 67 = .ok (.aload_n 0, 1) := by decide +kernel
theorem dX12_drawChild_68 : decode cX12_drawChild 68 = .ok (.getfield 630, 3) := by decide +kernel
theorem dX12_drawChild_71 : decode cX12_drawChild 71 = .ok (.aload_n 0, 1) := by decide +kernel
theorem dX12_drawChild_72 : decode cX12_drawChild 72 = .ok (.iload_n 1, 1) := by decide +kernel
theorem dX12_drawChild_73 : decode cX12_drawChild 73 = .ok (.iconst 1, 1) := by decide +kernel
theorem dX12_drawChild_74 : decode cX12_drawChild 74 = .ok (.invokevirtual 334, 3) := by decide +kernel
theorem dX12_drawChild_77 : decode cX12_drawChild 77 = .ok (.invokestatic 381, 3) := by decide +kernel
theorem dX12_drawChild_80 : decode cX12_drawChild 80 = .ok (.isub, 1) := by decide +kernel
theorem dX12_drawChild_81 : decode cX12_drawChild 81 = .ok (.putfield 630, 3) := by decide +kernel
theorem dX12_drawChild_84 : decode cX12_drawChild 84 = .ok (.iconst 0, 1) := by decide +kernel
theorem dX12_drawChild_85 : decode cX12_drawChild 85 = .ok (.istore_n 2, 1) := by decide +kernel
theorem dX12_drawChild_86 : decode cX12_drawChild 86 = .ok (.aload_n 0, 1) := by decide +kernel
theorem dX12_drawChild_87 : decode cX12_drawChild 87 = .ok (.getfield 630, 3) := by decide +kernel
theorem dX12_drawChild_90 : decode cX12_drawChild 90 = .ok (.ifCond .ne 5, 3) := by decide +kernel
theorem dX12_drawChild_93 : decode cX12_drawChild 93 = .ok (.iconst 1, 1) := by decide +kernel
theorem dX12_drawChild_94 : decode cX12_drawChild 94 = .ok (.ireturn, 1) := by decide +kernel
theorem dX12_drawChild_95 : decode cX12_drawChild 95 = .ok (.iinc 3 1, 3) := by decide +kernel
theorem dX12_drawChild_98 : decode cX12_drawChild 98 = .ok (.goto (-77), 3) := by decide +kernel
theorem dX12_drawChild_101 : decode cX12_drawChild 101 = .ok (.iconst 0, 1) := by decide +kernel
theorem dX12_drawChild_102 : decode cX12_drawChild 102 = .ok (.ireturn, 1) := by decide +kernel
theorem dX12_cellBy_0 : decode cX12_cellBy 0 = .ok (.iconst 0, 1) := by decide +kernel
theorem dX12_cellBy_1 : decode cX12_cellBy 1 = .ok (.istore_n 2, 1) := by decide +kernel
theorem dX12_cellBy_2 : decode cX12_cellBy 2 = .ok (.aload_n 0, 1) := by decide +kernel
theorem dX12_cellBy_3 : decode cX12_cellBy 3 = .ok (.iconst 0, 1) := by decide +kernel
theorem dX12_cellBy_4 : decode cX12_cellBy 4 = .ok (.invokevirtual 545, 3) := by decide +kernel
theorem dX12_cellBy_7 : decode cX12_cellBy 7 = .ok (.istore_n 3, 1) := by decide +kernel
theorem dX12_cellBy_8 : decode cX12_cellBy 8 = .ok (.iload_n 3, 1) := by decide +kernel
theorem dX12_cellBy_9 : decode cX12_cellBy 9 = .ok (.iload_n 1, 1) := by decide +kernel
theorem dX12_cellBy_10 : decode cX12_cellBy 10 = .ok (.if_icmp .gt 17, 3) := by decide +kernel
theorem dX12_cellBy_13 : decode cX12_cellBy 13 = .ok (.iinc 2 1, 3) := by decide +kernel
theorem dX12_cellBy_16 : decode cX12_cellBy 16 = .ok (.iload_n 3, 1) := by decide +kernel
theorem dX12_cellBy_17 : decode cX12_cellBy 17 = .ok (.aload_n 0, 1) := by decide +kernel
theorem dX12_cellBy_18 : decode cX12_cellBy 18 = .ok (.iload_n 2, 1) := by decide +kernel
theorem dX12_cellBy_19 : decode cX12_cellBy 19 = .ok (.invokevirtual 545, 3) := by decide +kernel
theorem dX12_cellBy_22 : decode cX12_cellBy 22 = .ok (.iadd, 1) := by decide +kernel
theorem dX12_cellBy_23 : decode cX12_cellBy 23 = .ok (.istore_n 3, 1) := by decide +kernel
theorem dX12_cellBy_24 : decode cX12_cellBy 24 = .ok (.goto (-16), 3) := by decide +kernel
theorem dX12_cellBy_27 : decode cX12_cellBy 27 = .ok (.iload_n 2, 1) := by decide +kernel
theorem dX12_cellBy_28 : decode cX12_cellBy 28 = .ok (.ireturn, 1) := by decide +kernel
theorem dX12_drawn_0 : decode cX12_drawn 0 = .ok (.aload_n 0, 1) := by decide +kernel
theorem dX12_drawn_1 : decode cX12_drawn 1 = .ok (.iconst 0, 1) := by decide +kernel
theorem dX12_drawn_2 : decode cX12_drawn 2 = .ok (.putfield 97, 3) := by decide +kernel
theorem dX12_drawn_5 : decode cX12_drawn 5 = .ok (.aload_n 0, 1) := by decide +kernel
theorem dX12_drawn_6 : decode cX12_drawn 6 = .ok (.iload_n 1, 1) := by decide +kernel
theorem dX12_drawn_7 : decode cX12_drawn 7 = .ok (.iconst (-1), 1) := by decide +kernel
theorem dX12_drawn_8 : decode cX12_drawn 8 = .ok (.invokevirtual 533, 3) := by decide +kernel
theorem dX12_drawn_11 : decode cX12_drawn 11 = .ok (.ifCond .eq 28, 3) := by decide +kernel
theorem dX12_drawn_14 : decode cX12_drawn 14 = .ok (.iload_n 3, 1) := by decide +kernel
theorem dX12_drawn_15 : decode cX12_drawn 15 = .ok (.iconst 0, 1) := by decide +kernel
theorem dX12_drawn_16 : decode cX12_drawn 16 = .ok (.iconst 2, 1) := by decide +kernel
theorem dX12_drawn_17 : decode cX12_drawn 17 = .ok (.invokestatic 105, 3) := by decide +kernel
theorem dX12_drawn_20 : decode cX12_drawn 20 = .ok (.ifCond .ne 22, 3) := by decide +kernel
theorem dX12_drawn_23 : decode cX12_drawn 23 = .ok (.iload_n 3, 1) := by decide +kernel
theorem dX12_drawn_24 : decode cX12_drawn 24 = .ok (.bipush 10, 2) := by decide +kernel
theorem dX12_drawn_26 : decode cX12_drawn 26 = .ok (.bipush 9, 2) := by decide +kernel
theorem dX12_drawn_28 : decode cX12_drawn 28 = .ok (.aload_n 0, 1) := by decide +kernel
theorem dX12_drawn_29 : decode cX12_drawn 29 = .ok (.getfield 319, 3) := by decide +kernel
theorem dX12_drawn_32 : decode cX12_drawn 32 = .ok (.iadd, 1) := by decide +kernel
theorem dX12_drawn_33 : decode cX12_drawn 33 = .ok (.invokestatic 105, 3) := by decide +kernel
theorem dX12_drawn_36 : decode cX12_drawn 36 = .ok (.ifCond .ne 6, 3) := by decide +kernel
theorem dX12_drawn_39 : decode cX12_drawn 39 = .ok (.bipush (-2), 2) := by decide +kernel
theorem dX12_drawn_41 : decode cX12_drawn 41 = .ok (.ireturn, 1) := by decide +kernel
theorem dX12_drawn_42 : decode cX12_drawn 42 = .ok (.aload_n 0, 1) := by decide +kernel
theorem dX12_drawn_43 : decode cX12_drawn 43 = .ok (.iload_n 2, 1) := by decide +kernel
theorem dX12_drawn_44 : decode cX12_drawn 44 = .ok (.putfield 620, 3) := by decide +kernel
theorem dX12_drawn_47 : decode cX12_drawn 47 = .ok (.aload_n 0, 1) := by decide +kernel
theorem dX12_drawn_48 : decode cX12_drawn 48 = .ok (.iconst 0, 1) := by decide +kernel
theorem dX12_drawn_49 : decode cX12_drawn 49 = .ok (.putfield 624, 3) := by decide +kernel
theorem dX12_drawn_52 : decode cX12_drawn 52 = .ok (.aload_n 0, 1) := by decide +kernel
theorem dX12_drawn_53 : decode cX12_drawn 53 = .ok (.aload_n 0, 1) := by decide +kernel
theorem dX12_drawn_54 : decode cX12_drawn 54 = .ok (.invokevirtual 409, 3) := by decide +kernel
theorem dX12_drawn_57 : decode cX12_drawn 57 = .ok (.putfield 630, 3) := by decide +kernel
theorem dX12_drawn_60 : decode cX12_drawn 60 = .ok (.iconst 0, 1) := by decide +kernel
theorem dX12_drawn_61 : decode cX12_drawn 61 = .ok (.istore 4, 2) := by decide +kernel
theorem dX12_drawn_63 : decode cX12_drawn 63 = .ok (.iload 4, 2) := by decide +kernel
theorem dX12_drawn_65 : decode cX12_drawn 65 = .ok (.aload_n 0, 1) := by decide +kernel
theorem dX12_drawn_66 : decode cX12_drawn 66 = .ok (.getfield 319, 3) := by decide +kernel
theorem dX12_drawn_69 : decode cX12_drawn 69 = .ok (.if_icmp .ge 36, 3) := by decide +kernel
theorem dX12_drawn_72 : decode cX12_drawn 72 = .ok (.aload_n 0, 1) := by decide +kernel
theorem dX12_drawn_73 : decode cX12_drawn 73 = .ok (.getfield 527, 3) := by decide +kernel
theorem dX12_drawn_76 : decode cX12_drawn 76 = .ok (.iconst (-1), 1) := by decide +kernel
theorem dX12_drawn_77 : decode cX12_drawn 77 = .ok (.if_icmp .ne 28, 3) := by decide +kernel
theorem dX12_drawn_80 : decode cX12_drawn 80 = .ok (.aload_n 0, 1) := by decide +kernel
theorem dX12_drawn_81 : decode cX12_drawn 81 = .ok (.aload_n 0, 1) := by decide +kernel
theorem dX12_drawn_82 : decode cX12_drawn 82 = .ok (.iload 4, 2) := by decide +kernel
theorem dX12_drawn_84 : decode cX12_drawn 84 = .ok (.invokevirtual 633, 3) := by decide +kernel
theorem dX12_drawn_87 : decode cX12_drawn 87 = .ok (.ifCond .eq 8, 3) := by decide +kernel
theorem dX12_drawn_90 : decode cX12_drawn 90 = .ok (.iload 4, 2) := by decide +kernel
theorem dX12_drawn_92 : decode cX12_drawn 92 = .ok (.goto 4, 3) := by decide +kernel
theorem dX12_drawn_95 : decode cX12_drawn 95 = .ok (.iconst (-1), 1) := by decide +kernel
theorem dX12_drawn_96 : decode cX12_drawn 96 = .ok (.putfield 527, 3) := by decide +kernel
theorem dX12_drawn_99 : decode cX12_drawn 99 = .ok (.iinc 4 1, 3) := by decide +kernel
theorem dX12_drawn_102 : decode cX12_drawn 102 = .ok (.goto (-39), 3) := by decide +kernel
theorem dX12_drawn_105 : decode cX12_drawn 105 = .ok (.iconst 0, 1) := by decide +kernel
theorem dX12_drawn_106 : decode cX12_drawn 106 = .ok (.istore 4, 2) := by decide +kernel
theorem dX12_drawn_108 : decode cX12_drawn 108 = .ok (.iload 4, 2) := by decide +kernel
theorem dX12_drawn_110 : decode cX12_drawn 110 = .ok (.bipush 8, 2) := by decide +kernel
theorem dX12_drawn_112 : decode cX12_drawn 112 = .ok (.if_icmp .ge 17, 3) := by decide +kernel
theorem dX12_drawn_115 : decode cX12_drawn 115 = .ok (.aload_n 0, 1) := by decide +kernel
theorem dX12_drawn_116 : decode cX12_drawn 116 = .ok (.getfield 90, 3) := by decide +kernel
theorem dX12_drawn_119 : decode cX12_drawn 119 = .ok (.iload 4, 2) := by decide +kernel
theorem dX12_drawn_121 : decode cX12_drawn 121 = .ok (.iconst 0, 1) := by decide +kernel
theorem dX12_drawn_122 : decode cX12_drawn 122 = .ok (.iastore, 1) := by decide +kernel
theorem dX12_drawn_123 : decode cX12_drawn 123 = .ok (.iinc 4 1, 3) := by decide +kernel
theorem dX12_drawn_126 : decode cX12_drawn 126 = .ok (.goto (-18), 3) := by decide +kernel
theorem dX12_drawn_129 : decode cX12_drawn 129 = .ok (.aload_n 0, 1) := by decide +kernel
theorem dX12_drawn_130 : decode cX12_drawn 130 = .ok (.invokevirtual 548, 3) := by decide +kernel
theorem dX12_drawn_133 : decode cX12_drawn 133 = .ok (.istore 4, 2) := by decide +kernel
theorem dX12_drawn_135 : decode cX12_drawn 135 = .ok (.iconst 0, 1) := by decide +kernel
theorem dX12_drawn_136 : decode cX12_drawn 136 = .ok (.istore 5, 2) := by decide +kernel
theorem dX12_drawn_138 : decode cX12_drawn 138 = .ok (.iload 5, 2) := by decide +kernel
theorem dX12_drawn_140 : decode cX12_drawn 140 = .ok (.aload_n 0, 1) := by decide +kernel
theorem dX12_drawn_141 : decode cX12_drawn 141 = .ok (.iconst 4, 1) := by decide +kernel
theorem dX12_drawn_142 : decode cX12_drawn 142 = .ok (.invokevirtual 313, 3) := by decide +kernel
theorem dX12_drawn_145 : decode cX12_drawn 145 = .ok (.if_icmp .ge 37, 3) := by decide +kernel
theorem dX12_drawn_148 : decode cX12_drawn 148 = .ok (.iload 4, 2) := by decide +kernel
theorem dX12_drawn_150 : decode cX12_drawn 150 = .ok (.ifCond .le 32, 3) := by decide +kernel
theorem dX12_drawn_153 : decode cX12_drawn 153 = .ok (.aload_n 0, 1) := by decide +kernel
theorem dX12_drawn_154 : decode cX12_drawn 154 = .ok (.getfield 90, 3) := by decide +kernel
theorem dX12_drawn_157 : decode cX12_drawn 157 = .ok (.aload_n 0, 1) := by decide +kernel
theorem dX12_drawn_158 : decode cX12_drawn 158 = .ok (.aload_n 0, 1) := by decide +kernel
theorem dX12_drawn_159 : decode cX12_drawn 159 = .ok (.aload_n 0, 1) := by decide +kernel
theorem dX12_drawn_160 : decode cX12_drawn 160 = .ok (.iload 4, 2) := by decide +kernel
theorem dX12_drawn_162 : decode cX12_drawn 162 = .ok (.invokevirtual 627, 3) := by decide +kernel
theorem dX12_drawn_165 : decode cX12_drawn 165 = .ok (.invokevirtual 636, 3) := by decide +kernel
theorem dX12_drawn_168 : decode cX12_drawn 168 = .ok (.invokevirtual 542, 3) := by decide +kernel
theorem dX12_drawn_171 : decode cX12_drawn 171 = .ok (.dup2, 1) := by decide +kernel
theorem dX12_drawn_172 : decode cX12_drawn 172 = .ok (.iaload, 1) := by decide +kernel
theorem dX12_drawn_173 : decode cX12_drawn 173 = .ok (.iconst 1, 1) := by decide +kernel
theorem dX12_drawn_174 : decode cX12_drawn 174 = .ok (.iadd, 1) := by decide +kernel
theorem dX12_drawn_175 : decode cX12_drawn 175 = .ok (.iastore, 1) := by decide +kernel
theorem dX12_drawn_176 : decode cX12_drawn 176 = .ok (.iinc 5 1, 3) := by decide +kernel
theorem dX12_drawn_179 : decode cX12_drawn 179 = .ok (.goto (-41), 3) := by decide +kernel
theorem dX12_drawn_182 : decode cX12_drawn 182 = .ok (.iload_n 3, 1) := by decide +kernel
theorem dX12_drawn_183 : decode cX12_drawn 183 = .ok (.ifCond .ne 10, 3) := by decide +kernel
theorem dX12_drawn_186 : decode cX12_drawn 186 = .ok (.aload_n 0, 1) := by decide +kernel
theorem dX12_drawn_187 : decode cX12_drawn 187 = .ok (.getfield 527, 3) := by decide +kernel
theorem dX12_drawn_190 : decode cX12_drawn 190 = .ok (.goto 36, 3) := by decide +kernel
theorem dX12_drawn_193 : decode cX12_drawn 193 = .ok (.iload_n 3, 1) := by decide +kernel
theorem dX12_drawn_194 : decode cX12_drawn 194 = .ok (.iconst 1, 1) := by decide +kernel
theorem dX12_drawn_195 : decode cX12_drawn 195 = .ok (.if_icmp .ne 10, 3) := by decide +kernel
theorem dX12_drawn_198 : decode cX12_drawn 198 = .ok (.aload_n 0, 1) := by decide +kernel
theorem dX12_drawn_199 : decode cX12_drawn 199 = .ok (.getfield 624, 3) := by decide +kernel
theorem dX12_drawn_202 : decode cX12_drawn 202 = .ok (.goto 24, 3) := by decide +kernel
theorem dX12_drawn_205 : decode cX12_drawn 205 = .ok (.iload_n 3, 1) := by decide +kernel
theorem dX12_drawn_206 : decode cX12_drawn 206 = .ok (.iconst 2, 1) := by decide +kernel
theorem dX12_drawn_207 : decode cX12_drawn 207 = .ok (.if_icmp .ne 10, 3) := by decide +kernel
theorem dX12_drawn_210 : decode cX12_drawn 210 = .ok (.aload_n 0, 1) := by decide +kernel
theorem dX12_drawn_211 : decode cX12_drawn 211 = .ok (.getfield 630, 3) := by decide +kernel
theorem dX12_drawn_214 : decode cX12_drawn 214 = .ok (.goto 12, 3) := by decide +kernel
theorem dX12_drawn_217 : decode cX12_drawn 217 = .ok (.aload_n 0, 1) := by decide +kernel
theorem dX12_drawn_218 : decode cX12_drawn 218 = .ok (.getfield 90, 3) := by decide +kernel
theorem dX12_drawn_221 : decode cX12_drawn 221 = .ok (.iload_n 3, 1) := by decide +kernel
theorem dX12_drawn_222 : decode cX12_drawn 222 = .ok (.bipush 10, 2) := by decide +kernel
theorem dX12_drawn_224 : decode cX12_drawn 224 = .ok (.isub, 1) := by decide +kernel
theorem dX12_drawn_225 : decode cX12_drawn 225 = .ok (.iaload, 1) := by decide +kernel
theorem dX12_drawn_226 : decode cX12_drawn 226 = .ok (.ireturn, 1) := by decide +kernel
theorem dX12_count_0 : decode cX12_count 0 = .ok (.aload_n 0, 1) := by decide +kernel
theorem dX12_count_1 : decode cX12_count 1 = .ok (.iconst 0, 1) := by decide +kernel
theorem dX12_count_2 : decode cX12_count 2 = .ok (.putfield 97, 3) := by decide +kernel
theorem dX12_count_5 : decode cX12_count 5 = .ok (.iload_n 1, 1) := by decide +kernel
theorem dX12_count_6 : decode cX12_count 6 = .ok (.iconst 0, 1) := by decide +kernel
theorem dX12_count_7 : decode cX12_count 7 = .ok (.iconst 4, 1) := by decide +kernel
theorem dX12_count_8 : decode cX12_count 8 = .ok (.invokestatic 105, 3) := by decide +kernel
theorem dX12_count_11 : decode cX12_count 11 = .ok (.ifCond .eq 12, 3) := by decide +kernel
theorem dX12_count_14 : decode cX12_count 14 = .ok (.aload_n 0, 1) := by decide +kernel
theorem dX12_count_15 : decode cX12_count 15 = .ok (.getfield 23, 3) := by decide +kernel
theorem dX12_count_18 : decode cX12_count 18 = .ok (.iload_n 1, 1) := by decide +kernel
theorem dX12_count_19 : decode cX12_count 19 = .ok (.iaload, 1) := by decide +kernel
theorem dX12_count_20 : decode cX12_count 20 = .ok (.goto 5, 3) := by decide +kernel
theorem dX12_count_23 : decode cX12_count 23 = .ok (.bipush (-2), 2) := by decide +kernel
theorem dX12_count_25 : decode cX12_count 25 = .ok (.ireturn, 1) := by decide +kernel
theorem dX12_image_0 : decode cX12_image 0 = .ok (.aload_n 0, 1) := by decide +kernel
theorem dX12_image_1 : decode cX12_image 1 = .ok (.iconst 0, 1) := by decide +kernel
theorem dX12_image_2 : decode cX12_image 2 = .ok (.putfield 97, 3) := by decide +kernel
theorem dX12_image_5 : decode cX12_image 5 = .ok (.iload_n 1, 1) := by decide +kernel
theorem dX12_image_6 : decode cX12_image 6 = .ok (.iconst 0, 1) := by decide +kernel
theorem dX12_image_7 : decode cX12_image 7 = .ok (.iconst 2, 1) := by decide +kernel
theorem dX12_image_8 : decode cX12_image 8 = .ok (.invokestatic 105, 3) := by decide +kernel
theorem dX12_image_11 : decode cX12_image 11 = .ok (.ifCond .ne 5, 3) := by decide +kernel
theorem dX12_image_14 : decode cX12_image 14 = .ok (.iconst 0, 1) := by decide +kernel
theorem dX12_image_15 : decode cX12_image 15 = .ok (.ireturn, 1) := by decide +kernel
theorem dX12_image_16 : decode cX12_image 16 = .ok (.aload_n 0, 1) := by decide +kernel
theorem dX12_image_17 : decode cX12_image 17 = .ok (.iconst 0, 1) := by decide +kernel
theorem dX12_image_18 : decode cX12_image 18 = .ok (.iload_n 1, 1) := by decide +kernel
theorem dX12_image_19 : decode cX12_image 19 = .ok (.iconst 1, 1) := by decide +kernel
theorem dX12_image_20 : decode cX12_image 20 = .ok (.iadd, 1) := by decide +kernel
theorem dX12_image_21 : decode cX12_image 21 = .ok (.invokevirtual 639, 3) := by decide +kernel
theorem dX12_image_24 : decode cX12_image 24 = .ok (.aload_n 0, 1) := by decide +kernel
theorem dX12_image_25 : decode cX12_image 25 = .ok (.getfield 93, 3) := by decide +kernel
theorem dX12_image_28 : decode cX12_image 28 = .ok (.iload_n 1, 1) := by decide +kernel
theorem dX12_image_29 : decode cX12_image 29 = .ok (.iconst 1, 1) := by decide +kernel
theorem dX12_image_30 : decode cX12_image 30 = .ok (.bastore, 1) := by decide +kernel
theorem dX12_image_31 : decode cX12_image 31 = .ok (.iconst 1, 1) := by decide +kernel
theorem dX12_image_32 : decode cX12_image 32 = .ok (.ireturn, 1) := by decide +kernel
theorem dX12_again_0 : decode cX12_again 0 = .ok (.aload_n 0, 1) := by decide +kernel
theorem dX12_again_1 : decode cX12_again 1 = .ok (.iconst 0, 1) := by decide +kernel
theorem dX12_again_2 : decode cX12_again 2 = .ok (.putfield 97, 3) := by decide +kernel
theorem dX12_again_5 : decode cX12_again 5 = .ok (.iload_n 1, 1) := by decide +kernel
theorem dX12_again_6 : decode cX12_again 6 = .ok (.iconst 0, 1) := by decide +kernel
theorem dX12_again_7 : decode cX12_again 7 = .ok (.iconst 2, 1) := by decide +kernel
theorem dX12_again_8 : decode cX12_again 8 = .ok (.invokestatic 105, 3) := by decide +kernel
theorem dX12_again_11 : decode cX12_again 11 = .ok (.ifCond .eq 12, 3) := by decide +kernel
theorem dX12_again_14 : decode cX12_again 14 = .ok (.aload_n 0, 1) := by decide +kernel
theorem dX12_again_15 : decode cX12_again 15 = .ok (.getfield 93, 3) := by decide +kernel
theorem dX12_again_18 : decode cX12_again 18 = .ok (.iload_n 1, 1) := by decide +kernel
theorem dX12_again_19 : decode cX12_again 19 = .ok (.baload, 1) := by decide +kernel
theorem dX12_again_20 : decode cX12_again 20 = .ok (.ifCond .ne 5, 3) := by decide +kernel
theorem dX12_again_23 : decode cX12_again 23 = .ok (.iconst 0, 1) := by decide +kernel
theorem dX12_again_24 : decode cX12_again 24 = .ok (.ireturn, 1) := by decide +kernel
theorem dX12_again_25 : decode cX12_again 25 = .ok (.aload_n 0, 1) := by decide +kernel
theorem dX12_again_26 : decode cX12_again 26 = .ok (.iload_n 1, 1) := by decide +kernel
theorem dX12_again_27 : decode cX12_again 27 = .ok (.iconst 1, 1) := by decide +kernel
theorem dX12_again_28 : decode cX12_again 28 = .ok (.iadd, 1) := by decide +kernel
theorem dX12_again_29 : decode cX12_again 29 = .ok (.iconst 0, 1) := by decide +kernel
theorem dX12_again_30 : decode cX12_again 30 = .ok (.invokevirtual 639, 3) := by decide +kernel
theorem dX12_again_33 : decode cX12_again 33 = .ok (.iconst 1, 1) := by decide +kernel
theorem dX12_again_34 : decode cX12_again 34 = .ok (.ireturn, 1) := by decide +kernel
theorem dJ9_abs_0f7a4_0 : decode cJ9_abs_0f7a4 0 = .ok (.iload_n 0, 1) := by decide +kernel
theorem dJ9_abs_0f7a4_1 : decode cJ9_abs_0f7a4 1 = .ok (.ifCond .ge 8, 3) := by decide +kernel
theorem dJ9_abs_0f7a4_4 : decode cJ9_abs_0f7a4 4 = .ok (.iload_n 0, 1) := by decide +kernel
theorem dJ9_abs_0f7a4_5 : decode cJ9_abs_0f7a4 5 = .ok (.ineg, 1) := by decide +kernel
theorem dJ9_abs_0f7a4_6 : decode cJ9_abs_0f7a4 6 = .ok (.goto 4, 3) := by decide +kernel
theorem dJ9_abs_0f7a4_9 : decode cJ9_abs_0f7a4 9 = .ok (.iload_n 0, 1) := by decide +kernel
theorem dJ9_abs_0f7a4_10 : decode cJ9_abs_0f7a4 10 = .ok (.ireturn, 1) := by decide +kernel
theorem dJ9_max_7cf53_0 : decode cJ9_max_7cf53 0 = .ok (.iload_n 0, 1) := by decide +kernel
theorem dJ9_max_7cf53_1 : decode cJ9_max_7cf53 1 = .ok (.iload_n 1, 1) := by decide +kernel
theorem dJ9_max_7cf53_2 : decode cJ9_max_7cf53 2 = .ok (.if_icmp .lt 7, 3) := by decide +kernel
theorem dJ9_max_7cf53_5 : decode cJ9_max_7cf53 5 = .ok (.iload_n 0, 1) := by decide +kernel
theorem dJ9_max_7cf53_6 : decode cJ9_max_7cf53 6 = .ok (.goto 4, 3) := by decide +kernel
theorem dJ9_max_7cf53_9 : decode cJ9_max_7cf53 9 = .ok (.iload_n 1, 1) := by decide +kernel
theorem dJ9_max_7cf53_10 : decode cJ9_max_7cf53 10 = .ok (.ireturn, 1) := by decide +kernel
theorem dJ9_max_f86c9_0 : decode cJ9_max_f86c9 0 = .ok (.lload_n 0, 1) := by decide +kernel
theorem dJ9_max_f86c9_1 : decode cJ9_max_f86c9 1 = .ok (.lload_n 2, 1) := by decide +kernel
theorem dJ9_max_f86c9_2 : decode cJ9_max_f86c9 2 = .ok (.lcmp, 1) := by decide +kernel
theorem dJ9_max_f86c9_3 : decode cJ9_max_f86c9 3 = .ok (.ifCond .lt 7, 3) := by decide +kernel
theorem dJ9_max_f86c9_6 : decode cJ9_max_f86c9 6 = .ok (.lload_n 0, 1) := by decide +kernel
theorem dJ9_max_f86c9_7 : decode cJ9_max_f86c9 7 = .ok (.goto 4, 3) := by decide +kernel
theorem dJ9_max_f86c9_10 : decode cJ9_max_f86c9 10 = .ok (.lload_n 2, 1) := by decide +kernel
theorem dJ9_max_f86c9_11 : decode cJ9_max_f86c9 11 = .ok (.lreturn, 1) := by decide +kernel
theorem dJ9_min_7cf53_0 : decode cJ9_min_7cf53 0 = .ok (.iload_n 0, 1) := by decide +kernel
theorem dJ9_min_7cf53_1 : decode cJ9_min_7cf53 1 = .ok (.iload_n 1, 1) := by decide +kernel
theorem dJ9_min_7cf53_2 : decode cJ9_min_7cf53 2 = .ok (.if_icmp .gt 7, 3) := by decide +kernel
theorem dJ9_min_7cf53_5 : decode cJ9_min_7cf53 5 = .ok (.iload_n 0, 1) := by decide +kernel
theorem dJ9_min_7cf53_6 : decode cJ9_min_7cf53 6 = .ok (.goto 4, 3) := by decide +kernel
theorem dJ9_min_7cf53_9 : decode cJ9_min_7cf53 9 = .ok (.iload_n 1, 1) := by decide +kernel
theorem dJ9_min_7cf53_10 : decode cJ9_min_7cf53 10 = .ok (.ireturn, 1) := by decide +kernel
theorem dJ9_min_f86c9_0 : decode cJ9_min_f86c9 0 = .ok (.lload_n 0, 1) := by decide +kernel
theorem dJ9_min_f86c9_1 : decode cJ9_min_f86c9 1 = .ok (.lload_n 2, 1) := by decide +kernel
theorem dJ9_min_f86c9_2 : decode cJ9_min_f86c9 2 = .ok (.lcmp, 1) := by decide +kernel
theorem dJ9_min_f86c9_3 : decode cJ9_min_f86c9 3 = .ok (.ifCond .gt 7, 3) := by decide +kernel
theorem dJ9_min_f86c9_6 : decode cJ9_min_f86c9 6 = .ok (.lload_n 0, 1) := by decide +kernel
theorem dJ9_min_f86c9_7 : decode cJ9_min_f86c9 7 = .ok (.goto 4, 3) := by decide +kernel
theorem dJ9_min_f86c9_10 : decode cJ9_min_f86c9 10 = .ok (.lload_n 2, 1) := by decide +kernel
theorem dJ9_min_f86c9_11 : decode cJ9_min_f86c9 11 = .ok (.lreturn, 1) := by decide +kernel
theorem dJ0_length_8abf5_0 : decode cJ0_length_8abf5 0 = .ok (.aload_n 0, 1) := by decide +kernel
theorem dJ0_length_8abf5_1 : decode cJ0_length_8abf5 1 = .ok (.getfield 9, 3) := by decide +kernel
theorem dJ0_length_8abf5_4 : decode cJ0_length_8abf5 4 = .ok (.arraylength, 1) := by decide +kernel
theorem dJ0_length_8abf5_5 : decode cJ0_length_8abf5 5 = .ok (.aload_n 0, 1) := by decide +kernel
theorem dJ0_length_8abf5_6 : decode cJ0_length_8abf5 6 = .ok (.invokevirtual 335, 3) := by decide +kernel
theorem dJ0_length_8abf5_9 : decode cJ0_length_8abf5 9 = .ok (.ishr, 1) := by decide +kernel
theorem dJ0_length_8abf5_10 : decode cJ0_length_8abf5 10 = .ok (.ireturn, 1) := by decide +kernel
theorem dJ0_charAt_5068e_0 : decode cJ0_charAt_5068e 0 = .ok (.aload_n 0, 1) := by decide +kernel
theorem dJ0_charAt_5068e_1 : decode cJ0_charAt_5068e 1 = .ok (.invokevirtual 492, 3) := by decide +kernel
theorem dJ0_charAt_5068e_4 : decode cJ0_charAt_5068e 4 = .ok (.ifCond .eq 12, 3) := by decide +kernel
theorem dJ0_charAt_5068e_7 : decode cJ0_charAt_5068e 7 = .ok (.aload_n 0, 1) := by decide +kernel
theorem dJ0_charAt_5068e_8 : decode cJ0_charAt_5068e 8 = .ok (.getfield 9, 3) := by decide +kernel
theorem dJ0_charAt_5068e_11 : decode cJ0_charAt_5068e 11 = .ok (.iload_n 1, 1) := by decide +kernel
theorem dJ0_charAt_5068e_12 : decode cJ0_charAt_5068e 12 = .ok (.invokestatic 495, 3) := by decide +kernel
theorem dJ0_charAt_5068e_15 : decode cJ0_charAt_5068e 15 = .ok (.ireturn, 1) := by decide +kernel
theorem dJ0_charAt_5068e_16 : decode cJ0_charAt_5068e 16 = .ok (.aload_n 0, 1) := by decide +kernel
theorem dJ0_charAt_5068e_17 : decode cJ0_charAt_5068e 17 = .ok (.getfield 9, 3) := by decide +kernel
theorem dJ0_charAt_5068e_20 : decode cJ0_charAt_5068e 20 = .ok (.iload_n 1, 1) := by decide +kernel
theorem dJ0_charAt_5068e_21 : decode cJ0_charAt_5068e 21 = .ok (.invokestatic 498, 3) := by decide +kernel
theorem dJ0_charAt_5068e_24 : decode cJ0_charAt_5068e 24 = .ok (.ireturn, 1) := by decide +kernel
theorem dJ0_coder_7d493_0 : decode cJ0_coder_7d493 0 = .ok (.getstatic 38, 3) := by decide +kernel
theorem dJ0_coder_7d493_3 : decode cJ0_coder_7d493 3 = .ok (.ifCond .eq 10, 3) := by decide +kernel
theorem dJ0_coder_7d493_6 : decode cJ0_coder_7d493 6 = .ok (.aload_n 0, 1) := by decide +kernel
theorem dJ0_coder_7d493_7 : decode cJ0_coder_7d493 7 = .ok (.getfield 15, 3) := by decide +kernel
theorem dJ0_coder_7d493_10 : decode cJ0_coder_7d493 10 = .ok (.goto 4, 3) := by decide +kernel
theorem dJ0_coder_7d493_13 : decode cJ0_coder_7d493 13 = .ok (.iconst 1, 1) := by decide +kernel
theorem dJ0_coder_7d493_14 : decode cJ0_coder_7d493 14 = .ok (.ireturn, 1) := by decide +kernel
theorem dJ0_isLatin1_aae02_0 : decode cJ0_isLatin1_aae02 0 = .ok (.getstatic 38, 3) := by decide +kernel
theorem dJ0_isLatin1_aae02_3 : decode cJ0_isLatin1_aae02 3 = .ok (.ifCond .eq 14, 3) := by decide +kernel
theorem dJ0_isLatin1_aae02_6 : decode cJ0_isLatin1_aae02 6 = .ok (.aload_n 0, 1) := by decide +kernel
theorem dJ0_isLatin1_aae02_7 : decode cJ0_isLatin1_aae02 7 = .ok (.getfield 15, 3) := by decide +kernel
theorem dJ0_isLatin1_aae02_10 : decode cJ0_isLatin1_aae02 10 = .ok (.ifCond .ne 7, 3) := by decide +kernel
theorem dJ0_isLatin1_aae02_13 : decode cJ0_isLatin1_aae02 13 = .ok (.iconst 1, 1) := by decide +kernel
theorem dJ0_isLatin1_aae02_14 : decode cJ0_isLatin1_aae02 14 = .ok (.goto 4, 3) := by decide +kernel
theorem dJ0_isLatin1_aae02_17 : decode cJ0_isLatin1_aae02 17 = .ok (.iconst 0, 1) := by decide +kernel
theorem dJ0_isLatin1_aae02_18 : decode cJ0_isLatin1_aae02 18 = .ok (.ireturn, 1) := by decide +kernel
theorem dJ0_checkIndex_df160_0 : decode cJ0_checkIndex_df160 0 = .ok (.iload_n 0, 1) := by decide +kernel
theorem dJ0_checkIndex_df160_1 : decode cJ0_checkIndex_df160 1 = .ok (.iload_n 1, 1) := by decide +kernel
theorem dJ0_checkIndex_df160_2 : decode cJ0_checkIndex_df160 2 = .ok (.getstatic 1053, 3) := by decide +kernel
theorem dJ0_checkIndex_df160_5 : decode cJ0_checkIndex_df160 5 = .ok (.invokestatic 1059, 3) := by decide +kernel
theorem dJ0_checkIndex_df160_8 : decode cJ0_checkIndex_df160 8 = .ok (.pop, 1) := by decide +kernel
theorem dJ0_checkIndex_df160_9 : decode cJ0_checkIndex_df160 9 = .ok (.return_, 1) := by decide +kernel
theorem dJ1_charAt_3b067_0 : decode cJ1_charAt_3b067 0 = .ok (.iload_n 1, 1) := by decide +kernel
theorem dJ1_charAt_3b067_1 : decode cJ1_charAt_3b067 1 = .ok (.aload_n 0, 1) := by decide +kernel
theorem dJ1_charAt_3b067_2 : decode cJ1_charAt_3b067 2 = .ok (.arraylength, 1) := by decide +kernel
theorem dJ1_charAt_3b067_3 : decode cJ1_charAt_3b067 3 = .ok (.invokestatic 9, 3) := by decide +kernel
theorem dJ1_charAt_3b067_6 : decode cJ1_charAt_3b067 6 = .ok (.aload_n 0, 1) := by decide +kernel
theorem dJ1_charAt_3b067_7 : decode cJ1_charAt_3b067 7 = .ok (.iload_n 1, 1) := by decide +kernel
theorem dJ1_charAt_3b067_8 : decode cJ1_charAt_3b067 8 = .ok (.baload, 1) := by decide +kernel
theorem dJ1_charAt_3b067_9 : decode cJ1_charAt_3b067 9 = .ok (.sipush 255, 3) := by decide +kernel
theorem dJ1_charAt_3b067_12 : decode cJ1_charAt_3b067 12 = .ok (.iand, 1) := by decide +kernel
theorem dJ1_charAt_3b067_13 : decode cJ1_charAt_3b067 13 = .ok (.i2c, 1) := by decide +kernel
theorem dJ1_charAt_3b067_14 : decode cJ1_charAt_3b067 14 = .ok (.ireturn, 1) := by decide +kernel
theorem dJ2_getChar_3b067_0 : decode cJ2_getChar_3b067 0 = .ok (.getstatic 44, 3) := by decide +kernel
theorem dJ2_getChar_3b067_3 : decode cJ2_getChar_3b067 3 = .ok (.ifCond .ne 25, 3) := by decide +kernel
theorem dJ2_getChar_3b067_6 : decode cJ2_getChar_3b067 6 = .ok (.iload_n 1, 1) := by decide +kernel
theorem dJ2_getChar_3b067_7 : decode cJ2_getChar_3b067 7 = .ok (.ifCond .lt 11, 3) := by decide +kernel
theorem dJ2_getChar_3b067_10 : decode cJ2_getChar_3b067 10 = .ok (.iload_n 1, 1) := by decide +kernel
theorem dJ2_getChar_3b067_11 : decode cJ2_getChar_3b067 11 = .ok (.aload_n 0, 1) := by decide +kernel
theorem dJ2_getChar_3b067_12 : decode cJ2_getChar_3b067 12 = .ok (.invokestatic 48, 3) := by decide +kernel
theorem dJ2_getChar_3b067_15 : decode cJ2_getChar_3b067 15 = .ok (.if_icmp .lt 13, 3) := by decide +kernel
theorem dJ2_getChar_3b067_18 : decode cJ2_getChar_3b067 18 = .ok (.new 52, 3) := by decide +kernel
theorem dJ2_getChar_3b067_21 : decode cJ2_getChar_3b067 21 = .ok (.dup, 1) := by decide +kernel
theorem dJ2_getChar_3b067_22 : decode cJ2_getChar_3b067 22 = .ok (.ldc 54, 2) := by decide +kernel
theorem dJ2_getChar_3b067_24 : decode cJ2_getChar_3b067 24 = .ok (.invokespecial 56, 3) := by decide +kernel
theorem dJ2_getChar_3b067_27 : decode cJ2_getChar_3b067 27 = .ok (.athrow, 1) := by decide +kernel
theorem dJ2_getChar_3b067_28 : decode cJ2_getChar_3b067 28 = .ok (.iload_n 1, 1) := by decide +kernel
theorem dJ2_getChar_3b067_29 : decode cJ2_getChar_3b067 29 = .ok (.iconst 1, 1) := by decide +kernel
theorem dJ2_getChar_3b067_30 : decode cJ2_getChar_3b067 30 = .ok (.ishl, 1) := by decide +kernel
theorem dJ2_getChar_3b067_31 : decode cJ2_getChar_3b067 31 = .ok (.istore_n 1, 1) := by decide +kernel
theorem dJ2_getChar_3b067_32 : decode cJ2_getChar_3b067 32 = .ok (.aload_n 0, 1) := by decide +kernel
theorem dJ2_getChar_3b067_33 : decode cJ2_getChar_3b067 33 = .ok (.iload_n 1, 1) := by decide +kernel
theorem dJ2_getChar_3b067_34 : decode cJ2_getChar_3b067 34 = .ok (.iinc 1 1, 3) := by decide +kernel
theorem dJ2_getChar_3b067_37 : decode cJ2_getChar_3b067 37 = .ok (.baload, 1) := by decide +kernel
theorem dJ2_getChar_3b067_38 : decode cJ2_getChar_3b067 38 = .ok (.sipush 255, 3) := by decide +kernel
theorem dJ2_getChar_3b067_41 : decode cJ2_getChar_3b067 41 = .ok (.iand, 1) := by decide +kernel
theorem dJ2_getChar_3b067_42 : decode cJ2_getChar_3b067 42 = .ok (.getstatic 59, 3) := by decide +kernel
theorem dJ2_getChar_3b067_45 : decode cJ2_getChar_3b067 45 = .ok (.ishl, 1) := by decide +kernel
theorem dJ2_getChar_3b067_46 : decode cJ2_getChar_3b067 46 = .ok (.aload_n 0, 1) := by decide +kernel
theorem dJ2_getChar_3b067_47 : decode cJ2_getChar_3b067 47 = .ok (.iload_n 1, 1) := by decide +kernel
theorem dJ2_getChar_3b067_48 : decode cJ2_getChar_3b067 48 = .ok (.baload, 1) := by decide +kernel
theorem dJ2_getChar_3b067_49 : decode cJ2_getChar_3b067 49 = .ok (.sipush 255, 3) := by decide +kernel
theorem dJ2_getChar_3b067_52 : decode cJ2_getChar_3b067 52 = .ok (.iand, 1) := by decide +kernel
theorem dJ2_getChar_3b067_53 : decode cJ2_getChar_3b067 53 = .ok (.getstatic 63, 3) := by decide +kernel
theorem dJ2_getChar_3b067_56 : decode cJ2_getChar_3b067 56 = .ok (.ishl, 1) := by decide +kernel
theorem dJ2_getChar_3b067_57 : decode cJ2_getChar_3b067 57 = .ok (.ior, 1) := by decide +kernel
theorem dJ2_getChar_3b067_58 : decode cJ2_getChar_3b067 58 = .ok (.i2c, 1) := by decide +kernel
theorem dJ2_getChar_3b067_59 : decode cJ2_getChar_3b067 59 = .ok (.ireturn, 1) := by decide +kernel
theorem dJ2_length_9d52b_0 : decode cJ2_length_9d52b 0 = .ok (.aload_n 0, 1) := by decide +kernel
theorem dJ2_length_9d52b_1 : decode cJ2_length_9d52b 1 = .ok (.arraylength, 1) := by decide +kernel
theorem dJ2_length_9d52b_2 : decode cJ2_length_9d52b 2 = .ok (.iconst 1, 1) := by decide +kernel
theorem dJ2_length_9d52b_3 : decode cJ2_length_9d52b 3 = .ok (.ishr, 1) := by decide +kernel
theorem dJ2_length_9d52b_4 : decode cJ2_length_9d52b 4 = .ok (.ireturn, 1) := by decide +kernel
theorem dJ2_charAt_3b067_0 : decode cJ2_charAt_3b067 0 = .ok (.iload_n 1, 1) := by decide +kernel
theorem dJ2_charAt_3b067_1 : decode cJ2_charAt_3b067 1 = .ok (.aload_n 0, 1) := by decide +kernel
theorem dJ2_charAt_3b067_2 : decode cJ2_charAt_3b067 2 = .ok (.invokestatic 67, 3) := by decide +kernel
theorem dJ2_charAt_3b067_5 : decode cJ2_charAt_3b067 5 = .ok (.aload_n 0, 1) := by decide +kernel
theorem dJ2_charAt_3b067_6 : decode cJ2_charAt_3b067 6 = .ok (.iload_n 1, 1) := by decide +kernel
theorem dJ2_charAt_3b067_7 : decode cJ2_charAt_3b067 7 = .ok (.invokestatic 71, 3) := by decide +kernel
theorem dJ2_charAt_3b067_10 : decode cJ2_charAt_3b067 10 = .ok (.ireturn, 1) := by decide +kernel
theorem dJ2_checkIndex_2214a_0 : decode cJ2_checkIndex_2214a 0 = .ok (.iload_n 0, 1) := by decide +kernel
theorem dJ2_checkIndex_2214a_1 : decode cJ2_checkIndex_2214a 1 = .ok (.aload_n 1, 1) := by decide +kernel
theorem dJ2_checkIndex_2214a_2 : decode cJ2_checkIndex_2214a 2 = .ok (.invokestatic 48, 3) := by decide +kernel
theorem dJ2_checkIndex_2214a_5 : decode cJ2_checkIndex_2214a 5 = .ok (.invokestatic 414, 3) := by decide +kernel
theorem dJ2_checkIndex_2214a_8 : decode cJ2_checkIndex_2214a 8 = .ok (.return_, 1) := by decide +kernel
theorem dJ3_checkIndex_8e157_0 : decode cJ3_checkIndex_8e157 0 = .ok (.iload_n 0, 1) := by decide +kernel
theorem dJ3_checkIndex_8e157_1 : decode cJ3_checkIndex_8e157 1 = .ok (.ifCond .lt 8, 3) := by decide +kernel
theorem dJ3_checkIndex_8e157_4 : decode cJ3_checkIndex_8e157 4 = .ok (.iload_n 0, 1) := by decide +kernel
theorem dJ3_checkIndex_8e157_5 : decode cJ3_checkIndex_8e157 5 = .ok (.iload_n 1, 1) := by decide +kernel
theorem dJ3_checkIndex_8e157_6 : decode cJ3_checkIndex_8e157 6 = .ok (.if_icmp .lt 10, 3) := by decide +kernel
theorem dJ3_checkIndex_8e157_9 : decode cJ3_checkIndex_8e157 9 = .ok (.aload_n 2, 1) := by decide +kernel
theorem dJ3_checkIndex_8e157_10 : decode cJ3_checkIndex_8e157 10 = .ok (.iload_n 0, 1) := by decide +kernel
theorem dJ3_checkIndex_8e157_11 : decode cJ3_checkIndex_8e157 11 = .ok (.iload_n 1, 1) := by decide +kernel
theorem dJ3_checkIndex_8e157_12 : decode cJ3_checkIndex_8e157 12 = .ok (.invokestatic 95, 3) := by decide +kernel
theorem dJ3_checkIndex_8e157_15 : decode cJ3_checkIndex_8e157 15 = .ok (.athrow, 1) := by decide +kernel
theorem dJ3_checkIndex_8e157_16 : decode cJ3_checkIndex_8e157 16 = .ok (.iload_n 0, 1) := by decide +kernel
theorem dJ3_checkIndex_8e157_17 : decode cJ3_checkIndex_8e157 17 = .ok (.ireturn, 1) := by decide +kernel
theorem dL_law_0 : decode cL_law 0 = .ok (.new 7, 3) := by decide +kernel
theorem dL_law_3 : decode cL_law 3 = .ok (.dup, 1) := by decide +kernel
theorem dL_law_4 : decode cL_law 4 = .ok (.invokespecial 9, 3) := by decide +kernel
theorem dL_law_7 : decode cL_law 7 = .ok (.astore_n 1, 1) := by decide +kernel
theorem dL_law_8 : decode cL_law 8 = .ok (.new 10, 3) := by decide +kernel
theorem dL_law_11 : decode cL_law 11 = .ok (.dup, 1) := by decide +kernel
theorem dL_law_12 : decode cL_law 12 = .ok (.invokespecial 12, 3) := by decide +kernel
theorem dL_law_15 : decode cL_law 15 = .ok (.astore_n 2, 1) := by decide +kernel
theorem dL_law_16 : decode cL_law 16 = .ok (.iconst 0, 1) := by decide +kernel
theorem dL_law_17 : decode cL_law 17 = .ok (.istore_n 3, 1) := by decide +kernel
theorem dL_law_18 : decode cL_law 18 = .ok (.iload_n 3, 1) := by decide +kernel
theorem dL_law_19 : decode cL_law 19 = .ok (.aload_n 0, 1) := by decide +kernel
theorem dL_law_20 : decode cL_law 20 = .ok (.arraylength, 1) := by decide +kernel
theorem dL_law_21 : decode cL_law 21 = .ok (.bipush 6, 2) := by decide +kernel
theorem dL_law_23 : decode cL_law 23 = .ok (.isub, 1) := by decide +kernel
theorem dL_law_24 : decode cL_law 24 = .ok (.if_icmp .gt 1774, 3) := by decide +kernel
theorem dL_law_27 : decode cL_law 27 = .ok (.aload_n 0, 1) := by decide +kernel
theorem dL_law_28 : decode cL_law 28 = .ok (.iload_n 3, 1) := by decide +kernel
theorem dL_law_29 : decode cL_law 29 = .ok (.iaload, 1) := by decide +kernel
theorem dL_law_30 : decode cL_law 30 = .ok (.bipush 63, 2) := by decide +kernel
theorem dL_law_32 : decode cL_law 32 = .ok (.iand, 1) := by decide +kernel
theorem dL_law_33 : decode cL_law 33 = .ok (.tableswitch 1759 0 34 #[155, 218, 241, 274, 297, 330, 373, 416, 449, 502, 565, 624, 667, 737, 780, 850, 930, 980, 1033, 1056, 1079, 1132, 1201, 1244, 1303, 1336, 1379, 1442, 1475, 1534, 1604, 1647, 1690, 1713, 1736], 155) := by decide +kernel
theorem dL_law_188 : decode cL_law 188 = .ok (.aload_n 1, 1) := by decide +kernel
theorem dL_law_189 : decode cL_law 189 = .ok (.aload_n 0, 1) := by decide +kernel
theorem dL_law_190 : decode cL_law 190 = .ok (.iload_n 3, 1) := by decide +kernel
theorem dL_law_191 : decode cL_law 191 = .ok (.iconst 1, 1) := by decide +kernel
theorem dL_law_192 : decode cL_law 192 = .ok (.iadd, 1) := by decide +kernel
theorem dL_law_193 : decode cL_law 193 = .ok (.iaload, 1) := by decide +kernel
theorem dL_law_194 : decode cL_law 194 = .ok (.aload_n 0, 1) := by decide +kernel
theorem dL_law_195 : decode cL_law 195 = .ok (.iload_n 3, 1) := by decide +kernel
theorem dL_law_196 : decode cL_law 196 = .ok (.iconst 2, 1) := by decide +kernel
theorem dL_law_197 : decode cL_law 197 = .ok (.iadd, 1) := by decide +kernel
theorem dL_law_198 : decode cL_law 198 = .ok (.iaload, 1) := by decide +kernel
theorem dL_law_199 : decode cL_law 199 = .ok (.aload_n 0, 1) := by decide +kernel
theorem dL_law_200 : decode cL_law 200 = .ok (.iload_n 3, 1) := by decide +kernel
theorem dL_law_201 : decode cL_law 201 = .ok (.iconst 3, 1) := by decide +kernel
theorem dL_law_202 : decode cL_law 202 = .ok (.iadd, 1) := by decide +kernel
theorem dL_law_203 : decode cL_law 203 = .ok (.iaload, 1) := by decide +kernel
theorem dL_law_204 : decode cL_law 204 = .ok (.aload_n 0, 1) := by decide +kernel
theorem dL_law_205 : decode cL_law 205 = .ok (.iload_n 3, 1) := by decide +kernel
theorem dL_law_206 : decode cL_law 206 = .ok (.iconst 4, 1) := by decide +kernel
theorem dL_law_207 : decode cL_law 207 = .ok (.iadd, 1) := by decide +kernel
theorem dL_law_208 : decode cL_law 208 = .ok (.iaload, 1) := by decide +kernel
theorem dL_law_209 : decode cL_law 209 = .ok (.aload_n 0, 1) := by decide +kernel
theorem dL_law_210 : decode cL_law 210 = .ok (.iload_n 3, 1) := by decide +kernel
theorem dL_law_211 : decode cL_law 211 = .ok (.iconst 5, 1) := by decide +kernel
theorem dL_law_212 : decode cL_law 212 = .ok (.iadd, 1) := by decide +kernel
theorem dL_law_213 : decode cL_law 213 = .ok (.iaload, 1) := by decide +kernel
theorem dL_law_214 : decode cL_law 214 = .ok (.invokevirtual 13, 3) := by decide +kernel
theorem dL_law_217 : decode cL_law 217 = .ok (.aload_n 2, 1) := by decide +kernel
theorem dL_law_218 : decode cL_law 218 = .ok (.aload_n 0, 1) := by decide +kernel
theorem dL_law_219 : decode cL_law 219 = .ok (.iload_n 3, 1) := by decide +kernel
theorem dL_law_220 : decode cL_law 220 = .ok (.iconst 1, 1) := by decide +kernel
theorem dL_law_221 : decode cL_law 221 = .ok (.iadd, 1) := by decide +kernel
theorem dL_law_222 : decode cL_law 222 = .ok (.iaload, 1) := by decide +kernel
theorem dL_law_223 : decode cL_law 223 = .ok (.aload_n 0, 1) := by decide +kernel
theorem dL_law_224 : decode cL_law 224 = .ok (.iload_n 3, 1) := by decide +kernel
theorem dL_law_225 : decode cL_law 225 = .ok (.iconst 2, 1) := by decide +kernel
theorem dL_law_226 : decode cL_law 226 = .ok (.iadd, 1) := by decide +kernel
theorem dL_law_227 : decode cL_law 227 = .ok (.iaload, 1) := by decide +kernel
theorem dL_law_228 : decode cL_law 228 = .ok (.aload_n 0, 1) := by decide +kernel
theorem dL_law_229 : decode cL_law 229 = .ok (.iload_n 3, 1) := by decide +kernel
theorem dL_law_230 : decode cL_law 230 = .ok (.iconst 3, 1) := by decide +kernel
theorem dL_law_231 : decode cL_law 231 = .ok (.iadd, 1) := by decide +kernel
theorem dL_law_232 : decode cL_law 232 = .ok (.iaload, 1) := by decide +kernel
theorem dL_law_233 : decode cL_law 233 = .ok (.aload_n 0, 1) := by decide +kernel
theorem dL_law_234 : decode cL_law 234 = .ok (.iload_n 3, 1) := by decide +kernel
theorem dL_law_235 : decode cL_law 235 = .ok (.iconst 4, 1) := by decide +kernel
theorem dL_law_236 : decode cL_law 236 = .ok (.iadd, 1) := by decide +kernel
theorem dL_law_237 : decode cL_law 237 = .ok (.iaload, 1) := by decide +kernel
theorem dL_law_238 : decode cL_law 238 = .ok (.aload_n 0, 1) := by decide +kernel
theorem dL_law_239 : decode cL_law 239 = .ok (.iload_n 3, 1) := by decide +kernel
theorem dL_law_240 : decode cL_law 240 = .ok (.iconst 5, 1) := by decide +kernel
theorem dL_law_241 : decode cL_law 241 = .ok (.iadd, 1) := by decide +kernel
theorem dL_law_242 : decode cL_law 242 = .ok (.iaload, 1) := by decide +kernel
theorem dL_law_243 : decode cL_law 243 = .ok (.invokevirtual 17, 3) := by decide +kernel
theorem dL_law_246 : decode cL_law 246 = .ok (.if_icmp .eq 1546, 3) := by decide +kernel
theorem dL_law_249 : decode cL_law 249 = .ok (.iconst 0, 1) := by decide +kernel
theorem dL_law_250 : decode cL_law 250 = .ok (.ireturn, 1) := by decide +kernel
theorem dL_law_251 : decode cL_law 251 = .ok (.aload_n 1, 1) := by decide +kernel
theorem dL_law_252 : decode cL_law 252 = .ok (.aload_n 0, 1) := by decide +kernel
theorem dL_law_253 : decode cL_law 253 = .ok (.iload_n 3, 1) := by decide +kernel
theorem dL_law_254 : decode cL_law 254 = .ok (.iconst 1, 1) := by decide +kernel
theorem dL_law_255 : decode cL_law 255 = .ok (.iadd, 1) := by decide +kernel
theorem dL_law_256 : decode cL_law 256 = .ok (.iaload, 1) := by decide +kernel
theorem dL_law_257 : decode cL_law 257 = .ok (.invokevirtual 18, 3) := by decide +kernel
theorem dL_law_260 : decode cL_law 260 = .ok (.aload_n 2, 1) := by decide +kernel
theorem dL_law_261 : decode cL_law 261 = .ok (.aload_n 0, 1) := by decide +kernel
theorem dL_law_262 : decode cL_law 262 = .ok (.iload_n 3, 1) := by decide +kernel
theorem dL_law_263 : decode cL_law 263 = .ok (.iconst 1, 1) := by decide +kernel
theorem dL_law_264 : decode cL_law 264 = .ok (.iadd, 1) := by decide +kernel
theorem dL_law_265 : decode cL_law 265 = .ok (.iaload, 1) := by decide +kernel
theorem dL_law_266 : decode cL_law 266 = .ok (.invokevirtual 22, 3) := by decide +kernel
theorem dL_law_269 : decode cL_law 269 = .ok (.if_icmp .eq 1523, 3) := by decide +kernel
theorem dL_law_272 : decode cL_law 272 = .ok (.iconst 0, 1) := by decide +kernel
theorem dL_law_273 : decode cL_law 273 = .ok (.ireturn, 1) := by decide +kernel
theorem dL_law_274 : decode cL_law 274 = .ok (.aload_n 1, 1) := by decide +kernel
theorem dL_law_275 : decode cL_law 275 = .ok (.aload_n 0, 1) := by decide +kernel
theorem dL_law_276 : decode cL_law 276 = .ok (.iload_n 3, 1) := by decide +kernel
theorem dL_law_277 : decode cL_law 277 = .ok (.iconst 1, 1) := by decide +kernel
theorem dL_law_278 : decode cL_law 278 = .ok (.iadd, 1) := by decide +kernel
theorem dL_law_279 : decode cL_law 279 = .ok (.iaload, 1) := by decide +kernel
theorem dL_law_280 : decode cL_law 280 = .ok (.aload_n 0, 1) := by decide +kernel
theorem dL_law_281 : decode cL_law 281 = .ok (.iload_n 3, 1) := by decide +kernel
theorem dL_law_282 : decode cL_law 282 = .ok (.iconst 2, 1) := by decide +kernel
theorem dL_law_283 : decode cL_law 283 = .ok (.iadd, 1) := by decide +kernel
theorem dL_law_284 : decode cL_law 284 = .ok (.iaload, 1) := by decide +kernel
theorem dL_law_285 : decode cL_law 285 = .ok (.invokevirtual 23, 3) := by decide +kernel
theorem dL_law_288 : decode cL_law 288 = .ok (.aload_n 2, 1) := by decide +kernel
theorem dL_law_289 : decode cL_law 289 = .ok (.aload_n 0, 1) := by decide +kernel
theorem dL_law_290 : decode cL_law 290 = .ok (.iload_n 3, 1) := by decide +kernel
theorem dL_law_291 : decode cL_law 291 = .ok (.iconst 1, 1) := by decide +kernel
theorem dL_law_292 : decode cL_law 292 = .ok (.iadd, 1) := by decide +kernel
theorem dL_law_293 : decode cL_law 293 = .ok (.iaload, 1) := by decide +kernel
theorem dL_law_294 : decode cL_law 294 = .ok (.aload_n 0, 1) := by decide +kernel
theorem dL_law_295 : decode cL_law 295 = .ok (.iload_n 3, 1) := by decide +kernel
theorem dL_law_296 : decode cL_law 296 = .ok (.iconst 2, 1) := by decide +kernel
theorem dL_law_297 : decode cL_law 297 = .ok (.iadd, 1) := by decide +kernel
theorem dL_law_298 : decode cL_law 298 = .ok (.iaload, 1) := by decide +kernel
theorem dL_law_299 : decode cL_law 299 = .ok (.invokevirtual 27, 3) := by decide +kernel
theorem dL_law_302 : decode cL_law 302 = .ok (.if_icmp .eq 1490, 3) := by decide +kernel
theorem dL_law_305 : decode cL_law 305 = .ok (.iconst 0, 1) := by decide +kernel
theorem dL_law_306 : decode cL_law 306 = .ok (.ireturn, 1) := by decide +kernel
theorem dL_law_307 : decode cL_law 307 = .ok (.aload_n 1, 1) := by decide +kernel
theorem dL_law_308 : decode cL_law 308 = .ok (.aload_n 0, 1) := by decide +kernel
theorem dL_law_309 : decode cL_law 309 = .ok (.iload_n 3, 1) := by decide +kernel
theorem dL_law_310 : decode cL_law 310 = .ok (.iconst 1, 1) := by decide +kernel
theorem dL_law_311 : decode cL_law 311 = .ok (.iadd, 1) := by decide +kernel
theorem dL_law_312 : decode cL_law 312 = .ok (.iaload, 1) := by decide +kernel
theorem dL_law_313 : decode cL_law 313 = .ok (.invokevirtual 28, 3) := by decide +kernel
theorem dL_law_316 : decode cL_law 316 = .ok (.aload_n 2, 1) := by decide +kernel
theorem dL_law_317 : decode cL_law 317 = .ok (.aload_n 0, 1) := by decide +kernel
theorem dL_law_318 : decode cL_law 318 = .ok (.iload_n 3, 1) := by decide +kernel
theorem dL_law_319 : decode cL_law 319 = .ok (.iconst 1, 1) := by decide +kernel
theorem dL_law_320 : decode cL_law 320 = .ok (.iadd, 1) := by decide +kernel
theorem dL_law_321 : decode cL_law 321 = .ok (.iaload, 1) := by decide +kernel
theorem dL_law_322 : decode cL_law 322 = .ok (.invokevirtual 31, 3) := by decide +kernel
theorem dL_law_325 : decode cL_law 325 = .ok (.if_icmp .eq 1467, 3) := by decide +kernel
theorem dL_law_328 : decode cL_law 328 = .ok (.iconst 0, 1) := by decide +kernel
theorem dL_law_329 : decode cL_law 329 = .ok (.ireturn, 1) := by decide +kernel
theorem dL_law_330 : decode cL_law 330 = .ok (.aload_n 1, 1) := by decide +kernel
theorem dL_law_331 : decode cL_law 331 = .ok (.aload_n 0, 1) := by decide +kernel
theorem dL_law_332 : decode cL_law 332 = .ok (.iload_n 3, 1) := by decide +kernel
theorem dL_law_333 : decode cL_law 333 = .ok (.iconst 1, 1) := by decide +kernel
theorem dL_law_334 : decode cL_law 334 = .ok (.iadd, 1) := by decide +kernel
theorem dL_law_335 : decode cL_law 335 = .ok (.iaload, 1) := by decide +kernel
theorem dL_law_336 : decode cL_law 336 = .ok (.aload_n 0, 1) := by decide +kernel
theorem dL_law_337 : decode cL_law 337 = .ok (.iload_n 3, 1) := by decide +kernel
theorem dL_law_338 : decode cL_law 338 = .ok (.iconst 2, 1) := by decide +kernel
theorem dL_law_339 : decode cL_law 339 = .ok (.iadd, 1) := by decide +kernel
theorem dL_law_340 : decode cL_law 340 = .ok (.iaload, 1) := by decide +kernel
theorem dL_law_341 : decode cL_law 341 = .ok (.invokevirtual 32, 3) := by decide +kernel
theorem dL_law_344 : decode cL_law 344 = .ok (.aload_n 2, 1) := by decide +kernel
theorem dL_law_345 : decode cL_law 345 = .ok (.aload_n 0, 1) := by decide +kernel
theorem dL_law_346 : decode cL_law 346 = .ok (.iload_n 3, 1) := by decide +kernel
theorem dL_law_347 : decode cL_law 347 = .ok (.iconst 1, 1) := by decide +kernel
theorem dL_law_348 : decode cL_law 348 = .ok (.iadd, 1) := by decide +kernel
theorem dL_law_349 : decode cL_law 349 = .ok (.iaload, 1) := by decide +kernel
theorem dL_law_350 : decode cL_law 350 = .ok (.aload_n 0, 1) := by decide +kernel
theorem dL_law_351 : decode cL_law 351 = .ok (.iload_n 3, 1) := by decide +kernel
theorem dL_law_352 : decode cL_law 352 = .ok (.iconst 2, 1) := by decide +kernel
theorem dL_law_353 : decode cL_law 353 = .ok (.iadd, 1) := by decide +kernel
theorem dL_law_354 : decode cL_law 354 = .ok (.iaload, 1) := by decide +kernel
theorem dL_law_355 : decode cL_law 355 = .ok (.invokevirtual 35, 3) := by decide +kernel
theorem dL_law_358 : decode cL_law 358 = .ok (.if_icmp .eq 1434, 3) := by decide +kernel
theorem dL_law_361 : decode cL_law 361 = .ok (.iconst 0, 1) := by decide +kernel
theorem dL_law_362 : decode cL_law 362 = .ok (.ireturn, 1) := by decide +kernel
theorem dL_law_363 : decode cL_law 363 = .ok (.aload_n 1, 1) := by decide +kernel
theorem dL_law_364 : decode cL_law 364 = .ok (.aload_n 0, 1) := by decide +kernel
theorem dL_law_365 : decode cL_law 365 = .ok (.iload_n 3, 1) := by decide +kernel
theorem dL_law_366 : decode cL_law 366 = .ok (.iconst 1, 1) := by decide +kernel
theorem dL_law_367 : decode cL_law 367 = .ok (.iadd, 1) := by decide +kernel
theorem dL_law_368 : decode cL_law 368 = .ok (.iaload, 1) := by decide +kernel
theorem dL_law_369 : decode cL_law 369 = .ok (.aload_n 0, 1) := by decide +kernel
theorem dL_law_370 : decode cL_law 370 = .ok (.iload_n 3, 1) := by decide +kernel
theorem dL_law_371 : decode cL_law 371 = .ok (.iconst 2, 1) := by decide +kernel
theorem dL_law_372 : decode cL_law 372 = .ok (.iadd, 1) := by decide +kernel
theorem dL_law_373 : decode cL_law 373 = .ok (.iaload, 1) := by decide +kernel
theorem dL_law_374 : decode cL_law 374 = .ok (.aload_n 0, 1) := by decide +kernel
theorem dL_law_375 : decode cL_law 375 = .ok (.iload_n 3, 1) := by decide +kernel
theorem dL_law_376 : decode cL_law 376 = .ok (.iconst 3, 1) := by decide +kernel
theorem dL_law_377 : decode cL_law 377 = .ok (.iadd, 1) := by decide +kernel
theorem dL_law_378 : decode cL_law 378 = .ok (.iaload, 1) := by decide +kernel
theorem dL_law_379 : decode cL_law 379 = .ok (.invokevirtual 36, 3) := by decide +kernel
theorem dL_law_382 : decode cL_law 382 = .ok (.aload_n 2, 1) := by decide +kernel
theorem dL_law_383 : decode cL_law 383 = .ok (.aload_n 0, 1) := by decide +kernel
theorem dL_law_384 : decode cL_law 384 = .ok (.iload_n 3, 1) := by decide +kernel
theorem dL_law_385 : decode cL_law 385 = .ok (.iconst 1, 1) := by decide +kernel
theorem dL_law_386 : decode cL_law 386 = .ok (.iadd, 1) := by decide +kernel
theorem dL_law_387 : decode cL_law 387 = .ok (.iaload, 1) := by decide +kernel
theorem dL_law_388 : decode cL_law 388 = .ok (.aload_n 0, 1) := by decide +kernel
theorem dL_law_389 : decode cL_law 389 = .ok (.iload_n 3, 1) := by decide +kernel
theorem dL_law_390 : decode cL_law 390 = .ok (.iconst 2, 1) := by decide +kernel
theorem dL_law_391 : decode cL_law 391 = .ok (.iadd, 1) := by decide +kernel
theorem dL_law_392 : decode cL_law 392 = .ok (.iaload, 1) := by decide +kernel
theorem dL_law_393 : decode cL_law 393 = .ok (.aload_n 0, 1) := by decide +kernel
theorem dL_law_394 : decode cL_law 394 = .ok (.iload_n 3, 1) := by decide +kernel
theorem dL_law_395 : decode cL_law 395 = .ok (.iconst 3, 1) := by decide +kernel
theorem dL_law_396 : decode cL_law 396 = .ok (.iadd, 1) := by decide +kernel
theorem dL_law_397 : decode cL_law 397 = .ok (.iaload, 1) := by decide +kernel
theorem dL_law_398 : decode cL_law 398 = .ok (.invokevirtual 40, 3) := by decide +kernel
theorem dL_law_401 : decode cL_law 401 = .ok (.if_icmp .eq 1391, 3) := by decide +kernel
theorem dL_law_404 : decode cL_law 404 = .ok (.iconst 0, 1) := by decide +kernel
theorem dL_law_405 : decode cL_law 405 = .ok (.ireturn, 1) := by decide +kernel
theorem dL_law_406 : decode cL_law 406 = .ok (.aload_n 1, 1) := by decide +kernel
theorem dL_law_407 : decode cL_law 407 = .ok (.aload_n 0, 1) := by decide +kernel
theorem dL_law_408 : decode cL_law 408 = .ok (.iload_n 3, 1) := by decide +kernel
theorem dL_law_409 : decode cL_law 409 = .ok (.iconst 1, 1) := by decide +kernel
theorem dL_law_410 : decode cL_law 410 = .ok (.iadd, 1) := by decide +kernel
theorem dL_law_411 : decode cL_law 411 = .ok (.iaload, 1) := by decide +kernel
theorem dL_law_412 : decode cL_law 412 = .ok (.aload_n 0, 1) := by decide +kernel
theorem dL_law_413 : decode cL_law 413 = .ok (.iload_n 3, 1) := by decide +kernel
theorem dL_law_414 : decode cL_law 414 = .ok (.iconst 2, 1) := by decide +kernel
theorem dL_law_415 : decode cL_law 415 = .ok (.iadd, 1) := by decide +kernel
theorem dL_law_416 : decode cL_law 416 = .ok (.iaload, 1) := by decide +kernel
theorem dL_law_417 : decode cL_law 417 = .ok (.aload_n 0, 1) := by decide +kernel
theorem dL_law_418 : decode cL_law 418 = .ok (.iload_n 3, 1) := by decide +kernel
theorem dL_law_419 : decode cL_law 419 = .ok (.iconst 3, 1) := by decide +kernel
theorem dL_law_420 : decode cL_law 420 = .ok (.iadd, 1) := by decide +kernel
theorem dL_law_421 : decode cL_law 421 = .ok (.iaload, 1) := by decide +kernel
theorem dL_law_422 : decode cL_law 422 = .ok (.invokevirtual 41, 3) := by decide +kernel
theorem dL_law_425 : decode cL_law 425 = .ok (.aload_n 2, 1) := by decide +kernel
theorem dL_law_426 : decode cL_law 426 = .ok (.aload_n 0, 1) := by decide +kernel
theorem dL_law_427 : decode cL_law 427 = .ok (.iload_n 3, 1) := by decide +kernel
theorem dL_law_428 : decode cL_law 428 = .ok (.iconst 1, 1) := by decide +kernel
theorem dL_law_429 : decode cL_law 429 = .ok (.iadd, 1) := by decide +kernel
theorem dL_law_430 : decode cL_law 430 = .ok (.iaload, 1) := by decide +kernel
theorem dL_law_431 : decode cL_law 431 = .ok (.aload_n 0, 1) := by decide +kernel
theorem dL_law_432 : decode cL_law 432 = .ok (.iload_n 3, 1) := by decide +kernel
theorem dL_law_433 : decode cL_law 433 = .ok (.iconst 2, 1) := by decide +kernel
theorem dL_law_434 : decode cL_law 434 = .ok (.iadd, 1) := by decide +kernel
theorem dL_law_435 : decode cL_law 435 = .ok (.iaload, 1) := by decide +kernel
theorem dL_law_436 : decode cL_law 436 = .ok (.aload_n 0, 1) := by decide +kernel
theorem dL_law_437 : decode cL_law 437 = .ok (.iload_n 3, 1) := by decide +kernel
theorem dL_law_438 : decode cL_law 438 = .ok (.iconst 3, 1) := by decide +kernel
theorem dL_law_439 : decode cL_law 439 = .ok (.iadd, 1) := by decide +kernel
theorem dL_law_440 : decode cL_law 440 = .ok (.iaload, 1) := by decide +kernel
theorem dL_law_441 : decode cL_law 441 = .ok (.invokevirtual 44, 3) := by decide +kernel
theorem dL_law_444 : decode cL_law 444 = .ok (.if_icmp .eq 1348, 3) := by decide +kernel
theorem dL_law_447 : decode cL_law 447 = .ok (.iconst 0, 1) := by decide +kernel
theorem dL_law_448 : decode cL_law 448 = .ok (.ireturn, 1) := by decide +kernel
theorem dL_law_449 : decode cL_law 449 = .ok (.aload_n 1, 1) := by decide +kernel
theorem dL_law_450 : decode cL_law 450 = .ok (.aload_n 0, 1) := by decide +kernel
theorem dL_law_451 : decode cL_law 451 = .ok (.iload_n 3, 1) := by decide +kernel
theorem dL_law_452 : decode cL_law 452 = .ok (.iconst 1, 1) := by decide +kernel
theorem dL_law_453 : decode cL_law 453 = .ok (.iadd, 1) := by decide +kernel
theorem dL_law_454 : decode cL_law 454 = .ok (.iaload, 1) := by decide +kernel
theorem dL_law_455 : decode cL_law 455 = .ok (.aload_n 0, 1) := by decide +kernel
theorem dL_law_456 : decode cL_law 456 = .ok (.iload_n 3, 1) := by decide +kernel
theorem dL_law_457 : decode cL_law 457 = .ok (.iconst 2, 1) := by decide +kernel
theorem dL_law_458 : decode cL_law 458 = .ok (.iadd, 1) := by decide +kernel
theorem dL_law_459 : decode cL_law 459 = .ok (.iaload, 1) := by decide +kernel
theorem dL_law_460 : decode cL_law 460 = .ok (.invokevirtual 45, 3) := by decide +kernel
theorem dL_law_463 : decode cL_law 463 = .ok (.aload_n 2, 1) := by decide +kernel
theorem dL_law_464 : decode cL_law 464 = .ok (.aload_n 0, 1) := by decide +kernel
theorem dL_law_465 : decode cL_law 465 = .ok (.iload_n 3, 1) := by decide +kernel
theorem dL_law_466 : decode cL_law 466 = .ok (.iconst 1, 1) := by decide +kernel
theorem dL_law_467 : decode cL_law 467 = .ok (.iadd, 1) := by decide +kernel
theorem dL_law_468 : decode cL_law 468 = .ok (.iaload, 1) := by decide +kernel
theorem dL_law_469 : decode cL_law 469 = .ok (.aload_n 0, 1) := by decide +kernel
theorem dL_law_470 : decode cL_law 470 = .ok (.iload_n 3, 1) := by decide +kernel
theorem dL_law_471 : decode cL_law 471 = .ok (.iconst 2, 1) := by decide +kernel
theorem dL_law_472 : decode cL_law 472 = .ok (.iadd, 1) := by decide +kernel
theorem dL_law_473 : decode cL_law 473 = .ok (.iaload, 1) := by decide +kernel
theorem dL_law_474 : decode cL_law 474 = .ok (.invokevirtual 48, 3) := by decide +kernel
theorem dL_law_477 : decode cL_law 477 = .ok (.if_icmp .eq 1315, 3) := by decide +kernel
theorem dL_law_480 : decode cL_law 480 = .ok (.iconst 0, 1) := by decide +kernel
theorem dL_law_481 : decode cL_law 481 = .ok (.ireturn, 1) := by decide +kernel
theorem dL_law_482 : decode cL_law 482 = .ok (.aload_n 1, 1) := by decide +kernel
theorem dL_law_483 : decode cL_law 483 = .ok (.aload_n 0, 1) := by decide +kernel
theorem dL_law_484 : decode cL_law 484 = .ok (.iload_n 3, 1) := by decide +kernel
theorem dL_law_485 : decode cL_law 485 = .ok (.iconst 1, 1) := by decide +kernel
theorem dL_law_486 : decode cL_law 486 = .ok (.iadd, 1) := by decide +kernel
theorem dL_law_487 : decode cL_law 487 = .ok (.iaload, 1) := by decide +kernel
theorem dL_law_488 : decode cL_law 488 = .ok (.aload_n 0, 1) := by decide +kernel
theorem dL_law_489 : decode cL_law 489 = .ok (.iload_n 3, 1) := by decide +kernel
theorem dL_law_490 : decode cL_law 490 = .ok (.iconst 2, 1) := by decide +kernel
theorem dL_law_491 : decode cL_law 491 = .ok (.iadd, 1) := by decide +kernel
theorem dL_law_492 : decode cL_law 492 = .ok (.iaload, 1) := by decide +kernel
theorem dL_law_493 : decode cL_law 493 = .ok (.aload_n 0, 1) := by decide +kernel
theorem dL_law_494 : decode cL_law 494 = .ok (.iload_n 3, 1) := by decide +kernel
theorem dL_law_495 : decode cL_law 495 = .ok (.iconst 3, 1) := by decide +kernel
theorem dL_law_496 : decode cL_law 496 = .ok (.iadd, 1) := by decide +kernel
theorem dL_law_497 : decode cL_law 497 = .ok (.iaload, 1) := by decide +kernel
theorem dL_law_498 : decode cL_law 498 = .ok (.aload_n 0, 1) := by decide +kernel
theorem dL_law_499 : decode cL_law 499 = .ok (.iload_n 3, 1) := by decide +kernel
theorem dL_law_500 : decode cL_law 500 = .ok (.iconst 4, 1) := by decide +kernel
theorem dL_law_501 : decode cL_law 501 = .ok (.iadd, 1) := by decide +kernel
theorem dL_law_502 : decode cL_law 502 = .ok (.iaload, 1) := by decide +kernel
theorem dL_law_503 : decode cL_law 503 = .ok (.invokevirtual 49, 3) := by decide +kernel
theorem dL_law_506 : decode cL_law 506 = .ok (.aload_n 2, 1) := by decide +kernel
theorem dL_law_507 : decode cL_law 507 = .ok (.aload_n 0, 1) := by decide +kernel
theorem dL_law_508 : decode cL_law 508 = .ok (.iload_n 3, 1) := by decide +kernel
theorem dL_law_509 : decode cL_law 509 = .ok (.iconst 1, 1) := by decide +kernel
theorem dL_law_510 : decode cL_law 510 = .ok (.iadd, 1) := by decide +kernel
theorem dL_law_511 : decode cL_law 511 = .ok (.iaload, 1) := by decide +kernel
theorem dL_law_512 : decode cL_law 512 = .ok (.aload_n 0, 1) := by decide +kernel
theorem dL_law_513 : decode cL_law 513 = .ok (.iload_n 3, 1) := by decide +kernel
theorem dL_law_514 : decode cL_law 514 = .ok (.iconst 2, 1) := by decide +kernel
theorem dL_law_515 : decode cL_law 515 = .ok (.iadd, 1) := by decide +kernel
theorem dL_law_516 : decode cL_law 516 = .ok (.iaload, 1) := by decide +kernel
theorem dL_law_517 : decode cL_law 517 = .ok (.aload_n 0, 1) := by decide +kernel
theorem dL_law_518 : decode cL_law 518 = .ok (.iload_n 3, 1) := by decide +kernel
theorem dL_law_519 : decode cL_law 519 = .ok (.iconst 3, 1) := by decide +kernel
theorem dL_law_520 : decode cL_law 520 = .ok (.iadd, 1) := by decide +kernel
theorem dL_law_521 : decode cL_law 521 = .ok (.iaload, 1) := by decide +kernel
theorem dL_law_522 : decode cL_law 522 = .ok (.aload_n 0, 1) := by decide +kernel
theorem dL_law_523 : decode cL_law 523 = .ok (.iload_n 3, 1) := by decide +kernel
theorem dL_law_524 : decode cL_law 524 = .ok (.iconst 4, 1) := by decide +kernel
theorem dL_law_525 : decode cL_law 525 = .ok (.iadd, 1) := by decide +kernel
theorem dL_law_526 : decode cL_law 526 = .ok (.iaload, 1) := by decide +kernel
theorem dL_law_527 : decode cL_law 527 = .ok (.invokevirtual 53, 3) := by decide +kernel
theorem dL_law_530 : decode cL_law 530 = .ok (.if_icmp .eq 1262, 3) := by decide +kernel
theorem dL_law_533 : decode cL_law 533 = .ok (.iconst 0, 1) := by decide +kernel
theorem dL_law_534 : decode cL_law 534 = .ok (.ireturn, 1) := by decide +kernel
theorem dL_law_535 : decode cL_law 535 = .ok (.aload_n 1, 1) := by decide +kernel
theorem dL_law_536 : decode cL_law 536 = .ok (.aload_n 0, 1) := by decide +kernel
theorem dL_law_537 : decode cL_law 537 = .ok (.iload_n 3, 1) := by decide +kernel
theorem dL_law_538 : decode cL_law 538 = .ok (.iconst 1, 1) := by decide +kernel
theorem dL_law_539 : decode cL_law 539 = .ok (.iadd, 1) := by decide +kernel
theorem dL_law_540 : decode cL_law 540 = .ok (.iaload, 1) := by decide +kernel
theorem dL_law_541 : decode cL_law 541 = .ok (.aload_n 0, 1) := by decide +kernel
theorem dL_law_542 : decode cL_law 542 = .ok (.iload_n 3, 1) := by decide +kernel
theorem dL_law_543 : decode cL_law 543 = .ok (.iconst 2, 1) := by decide +kernel
theorem dL_law_544 : decode cL_law 544 = .ok (.iadd, 1) := by decide +kernel
theorem dL_law_545 : decode cL_law 545 = .ok (.iaload, 1) := by decide +kernel
theorem dL_law_546 : decode cL_law 546 = .ok (.aload_n 0, 1) := by decide +kernel
theorem dL_law_547 : decode cL_law 547 = .ok (.iload_n 3, 1) := by decide +kernel
theorem dL_law_548 : decode cL_law 548 = .ok (.iconst 3, 1) := by decide +kernel
theorem dL_law_549 : decode cL_law 549 = .ok (.iadd, 1) := by decide +kernel
theorem dL_law_550 : decode cL_law 550 = .ok (.iaload, 1) := by decide +kernel
theorem dL_law_551 : decode cL_law 551 = .ok (.aload_n 0, 1) := by decide +kernel
theorem dL_law_552 : decode cL_law 552 = .ok (.iload_n 3, 1) := by decide +kernel
theorem dL_law_553 : decode cL_law 553 = .ok (.iconst 4, 1) := by decide +kernel
theorem dL_law_554 : decode cL_law 554 = .ok (.iadd, 1) := by decide +kernel
theorem dL_law_555 : decode cL_law 555 = .ok (.iaload, 1) := by decide +kernel
theorem dL_law_556 : decode cL_law 556 = .ok (.aload_n 0, 1) := by decide +kernel
theorem dL_law_557 : decode cL_law 557 = .ok (.iload_n 3, 1) := by decide +kernel
theorem dL_law_558 : decode cL_law 558 = .ok (.iconst 5, 1) := by decide +kernel
theorem dL_law_559 : decode cL_law 559 = .ok (.iadd, 1) := by decide +kernel
theorem dL_law_560 : decode cL_law 560 = .ok (.iaload, 1) := by decide +kernel
theorem dL_law_561 : decode cL_law 561 = .ok (.invokevirtual 54, 3) := by decide +kernel
theorem dL_law_564 : decode cL_law 564 = .ok (.aload_n 2, 1) := by decide +kernel
theorem dL_law_565 : decode cL_law 565 = .ok (.aload_n 0, 1) := by decide +kernel
theorem dL_law_566 : decode cL_law 566 = .ok (.iload_n 3, 1) := by decide +kernel
theorem dL_law_567 : decode cL_law 567 = .ok (.iconst 1, 1) := by decide +kernel
theorem dL_law_568 : decode cL_law 568 = .ok (.iadd, 1) := by decide +kernel
theorem dL_law_569 : decode cL_law 569 = .ok (.iaload, 1) := by decide +kernel
theorem dL_law_570 : decode cL_law 570 = .ok (.aload_n 0, 1) := by decide +kernel
theorem dL_law_571 : decode cL_law 571 = .ok (.iload_n 3, 1) := by decide +kernel
theorem dL_law_572 : decode cL_law 572 = .ok (.iconst 2, 1) := by decide +kernel
theorem dL_law_573 : decode cL_law 573 = .ok (.iadd, 1) := by decide +kernel
theorem dL_law_574 : decode cL_law 574 = .ok (.iaload, 1) := by decide +kernel
theorem dL_law_575 : decode cL_law 575 = .ok (.aload_n 0, 1) := by decide +kernel
theorem dL_law_576 : decode cL_law 576 = .ok (.iload_n 3, 1) := by decide +kernel
theorem dL_law_577 : decode cL_law 577 = .ok (.iconst 3, 1) := by decide +kernel
theorem dL_law_578 : decode cL_law 578 = .ok (.iadd, 1) := by decide +kernel
theorem dL_law_579 : decode cL_law 579 = .ok (.iaload, 1) := by decide +kernel
theorem dL_law_580 : decode cL_law 580 = .ok (.aload_n 0, 1) := by decide +kernel
theorem dL_law_581 : decode cL_law 581 = .ok (.iload_n 3, 1) := by decide +kernel
theorem dL_law_582 : decode cL_law 582 = .ok (.iconst 4, 1) := by decide +kernel
theorem dL_law_583 : decode cL_law 583 = .ok (.iadd, 1) := by decide +kernel
theorem dL_law_584 : decode cL_law 584 = .ok (.iaload, 1) := by decide +kernel
theorem dL_law_585 : decode cL_law 585 = .ok (.aload_n 0, 1) := by decide +kernel
theorem dL_law_586 : decode cL_law 586 = .ok (.iload_n 3, 1) := by decide +kernel
theorem dL_law_587 : decode cL_law 587 = .ok (.iconst 5, 1) := by decide +kernel
theorem dL_law_588 : decode cL_law 588 = .ok (.iadd, 1) := by decide +kernel
theorem dL_law_589 : decode cL_law 589 = .ok (.iaload, 1) := by decide +kernel
theorem dL_law_590 : decode cL_law 590 = .ok (.invokevirtual 57, 3) := by decide +kernel
theorem dL_law_593 : decode cL_law 593 = .ok (.if_icmp .eq 1199, 3) := by decide +kernel
theorem dL_law_596 : decode cL_law 596 = .ok (.iconst 0, 1) := by decide +kernel
theorem dL_law_597 : decode cL_law 597 = .ok (.ireturn, 1) := by decide +kernel
theorem dL_law_598 : decode cL_law 598 = .ok (.aload_n 1, 1) := by decide +kernel
theorem dL_law_599 : decode cL_law 599 = .ok (.aload_n 0, 1) := by decide +kernel
theorem dL_law_600 : decode cL_law 600 = .ok (.iload_n 3, 1) := by decide +kernel
theorem dL_law_601 : decode cL_law 601 = .ok (.iconst 1, 1) := by decide +kernel
theorem dL_law_602 : decode cL_law 602 = .ok (.iadd, 1) := by decide +kernel
theorem dL_law_603 : decode cL_law 603 = .ok (.iaload, 1) := by decide +kernel
theorem dL_law_604 : decode cL_law 604 = .ok (.aload_n 0, 1) := by decide +kernel
theorem dL_law_605 : decode cL_law 605 = .ok (.iload_n 3, 1) := by decide +kernel
theorem dL_law_606 : decode cL_law 606 = .ok (.iconst 2, 1) := by decide +kernel
theorem dL_law_607 : decode cL_law 607 = .ok (.iadd, 1) := by decide +kernel
theorem dL_law_608 : decode cL_law 608 = .ok (.iaload, 1) := by decide +kernel
theorem dL_law_609 : decode cL_law 609 = .ok (.aload_n 0, 1) := by decide +kernel
theorem dL_law_610 : decode cL_law 610 = .ok (.iload_n 3, 1) := by decide +kernel
theorem dL_law_611 : decode cL_law 611 = .ok (.iconst 3, 1) := by decide +kernel
theorem dL_law_612 : decode cL_law 612 = .ok (.iadd, 1) := by decide +kernel
theorem dL_law_613 : decode cL_law 613 = .ok (.iaload, 1) := by decide +kernel
theorem dL_law_614 : decode cL_law 614 = .ok (.ifCond .eq 7, 3) := by decide +kernel
theorem dL_law_617 : decode cL_law 617 = .ok (.iconst 1, 1) := by decide +kernel
theorem dL_law_618 : decode cL_law 618 = .ok (.goto 4, 3) := by decide +kernel
theorem dL_law_621 : decode cL_law 621 = .ok (.iconst 0, 1) := by decide +kernel
theorem dL_law_622 : decode cL_law 622 = .ok (.invokevirtual 58, 3) := by decide +kernel
theorem dL_law_625 : decode cL_law 625 = .ok (.aload_n 2, 1) := by decide +kernel
theorem dL_law_626 : decode cL_law 626 = .ok (.aload_n 0, 1) := by decide +kernel
theorem dL_law_627 : decode cL_law 627 = .ok (.iload_n 3, 1) := by decide +kernel
theorem dL_law_628 : decode cL_law 628 = .ok (.iconst 1, 1) := by decide +kernel
theorem dL_law_629 : decode cL_law 629 = .ok (.iadd, 1) := by decide +kernel
theorem dL_law_630 : decode cL_law 630 = .ok (.iaload, 1) := by decide +kernel
theorem dL_law_631 : decode cL_law 631 = .ok (.aload_n 0, 1) := by decide +kernel
theorem dL_law_632 : decode cL_law 632 = .ok (.iload_n 3, 1) := by decide +kernel
theorem dL_law_633 : decode cL_law 633 = .ok (.iconst 2, 1) := by decide +kernel
theorem dL_law_634 : decode cL_law 634 = .ok (.iadd, 1) := by decide +kernel
theorem dL_law_635 : decode cL_law 635 = .ok (.iaload, 1) := by decide +kernel
theorem dL_law_636 : decode cL_law 636 = .ok (.aload_n 0, 1) := by decide +kernel
theorem dL_law_637 : decode cL_law 637 = .ok (.iload_n 3, 1) := by decide +kernel
theorem dL_law_638 : decode cL_law 638 = .ok (.iconst 3, 1) := by decide +kernel
theorem dL_law_639 : decode cL_law 639 = .ok (.iadd, 1) := by decide +kernel
theorem dL_law_640 : decode cL_law 640 = .ok (.iaload, 1) := by decide +kernel
theorem dL_law_641 : decode cL_law 641 = .ok (.ifCond .eq 7, 3) := by decide +kernel
theorem dL_law_644 : decode cL_law 644 = .ok (.iconst 1, 1) := by decide +kernel
theorem dL_law_645 : decode cL_law 645 = .ok (.goto 4, 3) := by decide +kernel
theorem dL_law_648 : decode cL_law 648 = .ok (.iconst 0, 1) := by decide +kernel
theorem dL_law_649 : decode cL_law 649 = .ok (.invokevirtual 62, 3) := by decide +kernel
theorem dL_law_652 : decode cL_law 652 = .ok (.if_icmp .eq 1140, 3) := by decide +kernel
theorem dL_law_655 : decode cL_law 655 = .ok (.iconst 0, 1) := by decide +kernel
theorem dL_law_656 : decode cL_law 656 = .ok (.ireturn, 1) := by decide +kernel
theorem dL_law_657 : decode cL_law 657 = .ok (.aload_n 1, 1) := by decide +kernel
theorem dL_law_658 : decode cL_law 658 = .ok (.aload_n 0, 1) := by decide +kernel
theorem dL_law_659 : decode cL_law 659 = .ok (.iload_n 3, 1) := by decide +kernel
theorem dL_law_660 : decode cL_law 660 = .ok (.iconst 1, 1) := by decide +kernel
theorem dL_law_661 : decode cL_law 661 = .ok (.iadd, 1) := by decide +kernel
theorem dL_law_662 : decode cL_law 662 = .ok (.iaload, 1) := by decide +kernel
theorem dL_law_663 : decode cL_law 663 = .ok (.aload_n 0, 1) := by decide +kernel
theorem dL_law_664 : decode cL_law 664 = .ok (.iload_n 3, 1) := by decide +kernel
theorem dL_law_665 : decode cL_law 665 = .ok (.iconst 2, 1) := by decide +kernel
theorem dL_law_666 : decode cL_law 666 = .ok (.iadd, 1) := by decide +kernel
theorem dL_law_667 : decode cL_law 667 = .ok (.iaload, 1) := by decide +kernel
theorem dL_law_668 : decode cL_law 668 = .ok (.aload_n 0, 1) := by decide +kernel
theorem dL_law_669 : decode cL_law 669 = .ok (.iload_n 3, 1) := by decide +kernel
theorem dL_law_670 : decode cL_law 670 = .ok (.iconst 3, 1) := by decide +kernel
theorem dL_law_671 : decode cL_law 671 = .ok (.iadd, 1) := by decide +kernel
theorem dL_law_672 : decode cL_law 672 = .ok (.iaload, 1) := by decide +kernel
theorem dL_law_673 : decode cL_law 673 = .ok (.invokevirtual 63, 3) := by decide +kernel
theorem dL_law_676 : decode cL_law 676 = .ok (.aload_n 2, 1) := by decide +kernel
theorem dL_law_677 : decode cL_law 677 = .ok (.aload_n 0, 1) := by decide +kernel
theorem dL_law_678 : decode cL_law 678 = .ok (.iload_n 3, 1) := by decide +kernel
theorem dL_law_679 : decode cL_law 679 = .ok (.iconst 1, 1) := by decide +kernel
theorem dL_law_680 : decode cL_law 680 = .ok (.iadd, 1) := by decide +kernel
theorem dL_law_681 : decode cL_law 681 = .ok (.iaload, 1) := by decide +kernel
theorem dL_law_682 : decode cL_law 682 = .ok (.aload_n 0, 1) := by decide +kernel
theorem dL_law_683 : decode cL_law 683 = .ok (.iload_n 3, 1) := by decide +kernel
theorem dL_law_684 : decode cL_law 684 = .ok (.iconst 2, 1) := by decide +kernel
theorem dL_law_685 : decode cL_law 685 = .ok (.iadd, 1) := by decide +kernel
theorem dL_law_686 : decode cL_law 686 = .ok (.iaload, 1) := by decide +kernel
theorem dL_law_687 : decode cL_law 687 = .ok (.aload_n 0, 1) := by decide +kernel
theorem dL_law_688 : decode cL_law 688 = .ok (.iload_n 3, 1) := by decide +kernel
theorem dL_law_689 : decode cL_law 689 = .ok (.iconst 3, 1) := by decide +kernel
theorem dL_law_690 : decode cL_law 690 = .ok (.iadd, 1) := by decide +kernel
theorem dL_law_691 : decode cL_law 691 = .ok (.iaload, 1) := by decide +kernel
theorem dL_law_692 : decode cL_law 692 = .ok (.invokevirtual 66, 3) := by decide +kernel
theorem dL_law_695 : decode cL_law 695 = .ok (.if_icmp .eq 1097, 3) := by decide +kernel
theorem dL_law_698 : decode cL_law 698 = .ok (.iconst 0, 1) := by decide +kernel
theorem dL_law_699 : decode cL_law 699 = .ok (.ireturn, 1) := by decide +kernel
theorem dL_law_700 : decode cL_law 700 = .ok (.aload_n 1, 1) := by decide +kernel
theorem dL_law_701 : decode cL_law 701 = .ok (.aload_n 0, 1) := by decide +kernel
theorem dL_law_702 : decode cL_law 702 = .ok (.iload_n 3, 1) := by decide +kernel
theorem dL_law_703 : decode cL_law 703 = .ok (.iconst 1, 1) := by decide +kernel
theorem dL_law_704 : decode cL_law 704 = .ok (.iadd, 1) := by decide +kernel
theorem dL_law_705 : decode cL_law 705 = .ok (.iaload, 1) := by decide +kernel
theorem dL_law_706 : decode cL_law 706 = .ok (.aload_n 0, 1) := by decide +kernel
theorem dL_law_707 : decode cL_law 707 = .ok (.iload_n 3, 1) := by decide +kernel
theorem dL_law_708 : decode cL_law 708 = .ok (.iconst 2, 1) := by decide +kernel
theorem dL_law_709 : decode cL_law 709 = .ok (.iadd, 1) := by decide +kernel
theorem dL_law_710 : decode cL_law 710 = .ok (.iaload, 1) := by decide +kernel
theorem dL_law_711 : decode cL_law 711 = .ok (.aload_n 0, 1) := by decide +kernel
theorem dL_law_712 : decode cL_law 712 = .ok (.iload_n 3, 1) := by decide +kernel
theorem dL_law_713 : decode cL_law 713 = .ok (.iconst 3, 1) := by decide +kernel
theorem dL_law_714 : decode cL_law 714 = .ok (.iadd, 1) := by decide +kernel
theorem dL_law_715 : decode cL_law 715 = .ok (.iaload, 1) := by decide +kernel
theorem dL_law_716 : decode cL_law 716 = .ok (.aload_n 0, 1) := by decide +kernel
theorem dL_law_717 : decode cL_law 717 = .ok (.iload_n 3, 1) := by decide +kernel
theorem dL_law_718 : decode cL_law 718 = .ok (.iconst 4, 1) := by decide +kernel
theorem dL_law_719 : decode cL_law 719 = .ok (.iadd, 1) := by decide +kernel
theorem dL_law_720 : decode cL_law 720 = .ok (.iaload, 1) := by decide +kernel
theorem dL_law_721 : decode cL_law 721 = .ok (.ifCond .eq 7, 3) := by decide +kernel
theorem dL_law_724 : decode cL_law 724 = .ok (.iconst 1, 1) := by decide +kernel
theorem dL_law_725 : decode cL_law 725 = .ok (.goto 4, 3) := by decide +kernel
theorem dL_law_728 : decode cL_law 728 = .ok (.iconst 0, 1) := by decide +kernel
theorem dL_law_729 : decode cL_law 729 = .ok (.invokevirtual 67, 3) := by decide +kernel
theorem dL_law_732 : decode cL_law 732 = .ok (.aload_n 2, 1) := by decide +kernel
theorem dL_law_733 : decode cL_law 733 = .ok (.aload_n 0, 1) := by decide +kernel
theorem dL_law_734 : decode cL_law 734 = .ok (.iload_n 3, 1) := by decide +kernel
theorem dL_law_735 : decode cL_law 735 = .ok (.iconst 1, 1) := by decide +kernel
theorem dL_law_736 : decode cL_law 736 = .ok (.iadd, 1) := by decide +kernel
theorem dL_law_737 : decode cL_law 737 = .ok (.iaload, 1) := by decide +kernel
theorem dL_law_738 : decode cL_law 738 = .ok (.aload_n 0, 1) := by decide +kernel
theorem dL_law_739 : decode cL_law 739 = .ok (.iload_n 3, 1) := by decide +kernel
theorem dL_law_740 : decode cL_law 740 = .ok (.iconst 2, 1) := by decide +kernel
theorem dL_law_741 : decode cL_law 741 = .ok (.iadd, 1) := by decide +kernel
theorem dL_law_742 : decode cL_law 742 = .ok (.iaload, 1) := by decide +kernel
theorem dL_law_743 : decode cL_law 743 = .ok (.aload_n 0, 1) := by decide +kernel
theorem dL_law_744 : decode cL_law 744 = .ok (.iload_n 3, 1) := by decide +kernel
theorem dL_law_745 : decode cL_law 745 = .ok (.iconst 3, 1) := by decide +kernel
theorem dL_law_746 : decode cL_law 746 = .ok (.iadd, 1) := by decide +kernel
theorem dL_law_747 : decode cL_law 747 = .ok (.iaload, 1) := by decide +kernel
theorem dL_law_748 : decode cL_law 748 = .ok (.aload_n 0, 1) := by decide +kernel
theorem dL_law_749 : decode cL_law 749 = .ok (.iload_n 3, 1) := by decide +kernel
theorem dL_law_750 : decode cL_law 750 = .ok (.iconst 4, 1) := by decide +kernel
theorem dL_law_751 : decode cL_law 751 = .ok (.iadd, 1) := by decide +kernel
theorem dL_law_752 : decode cL_law 752 = .ok (.iaload, 1) := by decide +kernel
theorem dL_law_753 : decode cL_law 753 = .ok (.ifCond .eq 7, 3) := by decide +kernel
theorem dL_law_756 : decode cL_law 756 = .ok (.iconst 1, 1) := by decide +kernel
theorem dL_law_757 : decode cL_law 757 = .ok (.goto 4, 3) := by decide +kernel
theorem dL_law_760 : decode cL_law 760 = .ok (.iconst 0, 1) := by decide +kernel
theorem dL_law_761 : decode cL_law 761 = .ok (.invokevirtual 71, 3) := by decide +kernel
theorem dL_law_764 : decode cL_law 764 = .ok (.lcmp, 1) := by decide +kernel
theorem dL_law_765 : decode cL_law 765 = .ok (.ifCond .eq 1027, 3) := by decide +kernel
theorem dL_law_768 : decode cL_law 768 = .ok (.iconst 0, 1) := by decide +kernel
theorem dL_law_769 : decode cL_law 769 = .ok (.ireturn, 1) := by decide +kernel
theorem dL_law_770 : decode cL_law 770 = .ok (.aload_n 1, 1) := by decide +kernel
theorem dL_law_771 : decode cL_law 771 = .ok (.aload_n 0, 1) := by decide +kernel
theorem dL_law_772 : decode cL_law 772 = .ok (.iload_n 3, 1) := by decide +kernel
theorem dL_law_773 : decode cL_law 773 = .ok (.iconst 1, 1) := by decide +kernel
theorem dL_law_774 : decode cL_law 774 = .ok (.iadd, 1) := by decide +kernel
theorem dL_law_775 : decode cL_law 775 = .ok (.iaload, 1) := by decide +kernel
theorem dL_law_776 : decode cL_law 776 = .ok (.aload_n 0, 1) := by decide +kernel
theorem dL_law_777 : decode cL_law 777 = .ok (.iload_n 3, 1) := by decide +kernel
theorem dL_law_778 : decode cL_law 778 = .ok (.iconst 2, 1) := by decide +kernel
theorem dL_law_779 : decode cL_law 779 = .ok (.iadd, 1) := by decide +kernel
theorem dL_law_780 : decode cL_law 780 = .ok (.iaload, 1) := by decide +kernel
theorem dL_law_781 : decode cL_law 781 = .ok (.aload_n 0, 1) := by decide +kernel
theorem dL_law_782 : decode cL_law 782 = .ok (.iload_n 3, 1) := by decide +kernel
theorem dL_law_783 : decode cL_law 783 = .ok (.iconst 3, 1) := by decide +kernel
theorem dL_law_784 : decode cL_law 784 = .ok (.iadd, 1) := by decide +kernel
theorem dL_law_785 : decode cL_law 785 = .ok (.iaload, 1) := by decide +kernel
theorem dL_law_786 : decode cL_law 786 = .ok (.invokevirtual 72, 3) := by decide +kernel
theorem dL_law_789 : decode cL_law 789 = .ok (.aload_n 2, 1) := by decide +kernel
theorem dL_law_790 : decode cL_law 790 = .ok (.aload_n 0, 1) := by decide +kernel
theorem dL_law_791 : decode cL_law 791 = .ok (.iload_n 3, 1) := by decide +kernel
theorem dL_law_792 : decode cL_law 792 = .ok (.iconst 1, 1) := by decide +kernel
theorem dL_law_793 : decode cL_law 793 = .ok (.iadd, 1) := by decide +kernel
theorem dL_law_794 : decode cL_law 794 = .ok (.iaload, 1) := by decide +kernel
theorem dL_law_795 : decode cL_law 795 = .ok (.aload_n 0, 1) := by decide +kernel
theorem dL_law_796 : decode cL_law 796 = .ok (.iload_n 3, 1) := by decide +kernel
theorem dL_law_797 : decode cL_law 797 = .ok (.iconst 2, 1) := by decide +kernel
theorem dL_law_798 : decode cL_law 798 = .ok (.iadd, 1) := by decide +kernel
theorem dL_law_799 : decode cL_law 799 = .ok (.iaload, 1) := by decide +kernel
theorem dL_law_800 : decode cL_law 800 = .ok (.aload_n 0, 1) := by decide +kernel
theorem dL_law_801 : decode cL_law 801 = .ok (.iload_n 3, 1) := by decide +kernel
theorem dL_law_802 : decode cL_law 802 = .ok (.iconst 3, 1) := by decide +kernel
theorem dL_law_803 : decode cL_law 803 = .ok (.iadd, 1) := by decide +kernel
theorem dL_law_804 : decode cL_law 804 = .ok (.iaload, 1) := by decide +kernel
theorem dL_law_805 : decode cL_law 805 = .ok (.invokevirtual 75, 3) := by decide +kernel
theorem dL_law_808 : decode cL_law 808 = .ok (.if_icmp .eq 984, 3) := by decide +kernel
theorem dL_law_811 : decode cL_law 811 = .ok (.iconst 0, 1) := by decide +kernel
theorem dL_law_812 : decode cL_law 812 = .ok (.ireturn, 1) := by decide +kernel
theorem dL_law_813 : decode cL_law 813 = .ok (.aload_n 1, 1) := by decide +kernel
theorem dL_law_814 : decode cL_law 814 = .ok (.aload_n 0, 1) := by decide +kernel
theorem dL_law_815 : decode cL_law 815 = .ok (.iload_n 3, 1) := by decide +kernel
theorem dL_law_816 : decode cL_law 816 = .ok (.iconst 1, 1) := by decide +kernel
theorem dL_law_817 : decode cL_law 817 = .ok (.iadd, 1) := by decide +kernel
theorem dL_law_818 : decode cL_law 818 = .ok (.iaload, 1) := by decide +kernel
theorem dL_law_819 : decode cL_law 819 = .ok (.aload_n 0, 1) := by decide +kernel
theorem dL_law_820 : decode cL_law 820 = .ok (.iload_n 3, 1) := by decide +kernel
theorem dL_law_821 : decode cL_law 821 = .ok (.iconst 2, 1) := by decide +kernel
theorem dL_law_822 : decode cL_law 822 = .ok (.iadd, 1) := by decide +kernel
theorem dL_law_823 : decode cL_law 823 = .ok (.iaload, 1) := by decide +kernel
theorem dL_law_824 : decode cL_law 824 = .ok (.aload_n 0, 1) := by decide +kernel
theorem dL_law_825 : decode cL_law 825 = .ok (.iload_n 3, 1) := by decide +kernel
theorem dL_law_826 : decode cL_law 826 = .ok (.iconst 3, 1) := by decide +kernel
theorem dL_law_827 : decode cL_law 827 = .ok (.iadd, 1) := by decide +kernel
theorem dL_law_828 : decode cL_law 828 = .ok (.iaload, 1) := by decide +kernel
theorem dL_law_829 : decode cL_law 829 = .ok (.aload_n 0, 1) := by decide +kernel
theorem dL_law_830 : decode cL_law 830 = .ok (.iload_n 3, 1) := by decide +kernel
theorem dL_law_831 : decode cL_law 831 = .ok (.iconst 4, 1) := by decide +kernel
theorem dL_law_832 : decode cL_law 832 = .ok (.iadd, 1) := by decide +kernel
theorem dL_law_833 : decode cL_law 833 = .ok (.iaload, 1) := by decide +kernel
theorem dL_law_834 : decode cL_law 834 = .ok (.ifCond .eq 7, 3) := by decide +kernel
theorem dL_law_837 : decode cL_law 837 = .ok (.iconst 1, 1) := by decide +kernel
theorem dL_law_838 : decode cL_law 838 = .ok (.goto 4, 3) := by decide +kernel
theorem dL_law_841 : decode cL_law 841 = .ok (.iconst 0, 1) := by decide +kernel
theorem dL_law_842 : decode cL_law 842 = .ok (.invokevirtual 76, 3) := by decide +kernel
theorem dL_law_845 : decode cL_law 845 = .ok (.aload_n 2, 1) := by decide +kernel
theorem dL_law_846 : decode cL_law 846 = .ok (.aload_n 0, 1) := by decide +kernel
theorem dL_law_847 : decode cL_law 847 = .ok (.iload_n 3, 1) := by decide +kernel
theorem dL_law_848 : decode cL_law 848 = .ok (.iconst 1, 1) := by decide +kernel
theorem dL_law_849 : decode cL_law 849 = .ok (.iadd, 1) := by decide +kernel
theorem dL_law_850 : decode cL_law 850 = .ok (.iaload, 1) := by decide +kernel
theorem dL_law_851 : decode cL_law 851 = .ok (.aload_n 0, 1) := by decide +kernel
theorem dL_law_852 : decode cL_law 852 = .ok (.iload_n 3, 1) := by decide +kernel
theorem dL_law_853 : decode cL_law 853 = .ok (.iconst 2, 1) := by decide +kernel
theorem dL_law_854 : decode cL_law 854 = .ok (.iadd, 1) := by decide +kernel
theorem dL_law_855 : decode cL_law 855 = .ok (.iaload, 1) := by decide +kernel
theorem dL_law_856 : decode cL_law 856 = .ok (.aload_n 0, 1) := by decide +kernel
theorem dL_law_857 : decode cL_law 857 = .ok (.iload_n 3, 1) := by decide +kernel
theorem dL_law_858 : decode cL_law 858 = .ok (.iconst 3, 1) := by decide +kernel
theorem dL_law_859 : decode cL_law 859 = .ok (.iadd, 1) := by decide +kernel
theorem dL_law_860 : decode cL_law 860 = .ok (.iaload, 1) := by decide +kernel
theorem dL_law_861 : decode cL_law 861 = .ok (.aload_n 0, 1) := by decide +kernel
theorem dL_law_862 : decode cL_law 862 = .ok (.iload_n 3, 1) := by decide +kernel
theorem dL_law_863 : decode cL_law 863 = .ok (.iconst 4, 1) := by decide +kernel
theorem dL_law_864 : decode cL_law 864 = .ok (.iadd, 1) := by decide +kernel
theorem dL_law_865 : decode cL_law 865 = .ok (.iaload, 1) := by decide +kernel
theorem dL_law_866 : decode cL_law 866 = .ok (.ifCond .eq 7, 3) := by decide +kernel
theorem dL_law_869 : decode cL_law 869 = .ok (.iconst 1, 1) := by decide +kernel
theorem dL_law_870 : decode cL_law 870 = .ok (.goto 4, 3) := by decide +kernel
theorem dL_law_873 : decode cL_law 873 = .ok (.iconst 0, 1) := by decide +kernel
theorem dL_law_874 : decode cL_law 874 = .ok (.invokevirtual 79, 3) := by decide +kernel
theorem dL_law_877 : decode cL_law 877 = .ok (.lcmp, 1) := by decide +kernel
theorem dL_law_878 : decode cL_law 878 = .ok (.ifCond .eq 914, 3) := by decide +kernel
theorem dL_law_881 : decode cL_law 881 = .ok (.iconst 0, 1) := by decide +kernel
theorem dL_law_882 : decode cL_law 882 = .ok (.ireturn, 1) := by decide +kernel
theorem dL_law_883 : decode cL_law 883 = .ok (.aload_n 1, 1) := by decide +kernel
theorem dL_law_884 : decode cL_law 884 = .ok (.aload_n 0, 1) := by decide +kernel
theorem dL_law_885 : decode cL_law 885 = .ok (.iload_n 3, 1) := by decide +kernel
theorem dL_law_886 : decode cL_law 886 = .ok (.iconst 1, 1) := by decide +kernel
theorem dL_law_887 : decode cL_law 887 = .ok (.iadd, 1) := by decide +kernel
theorem dL_law_888 : decode cL_law 888 = .ok (.iaload, 1) := by decide +kernel
theorem dL_law_889 : decode cL_law 889 = .ok (.aload_n 0, 1) := by decide +kernel
theorem dL_law_890 : decode cL_law 890 = .ok (.iload_n 3, 1) := by decide +kernel
theorem dL_law_891 : decode cL_law 891 = .ok (.iconst 2, 1) := by decide +kernel
theorem dL_law_892 : decode cL_law 892 = .ok (.iadd, 1) := by decide +kernel
theorem dL_law_893 : decode cL_law 893 = .ok (.iaload, 1) := by decide +kernel
theorem dL_law_894 : decode cL_law 894 = .ok (.aload_n 0, 1) := by decide +kernel
theorem dL_law_895 : decode cL_law 895 = .ok (.iload_n 3, 1) := by decide +kernel
theorem dL_law_896 : decode cL_law 896 = .ok (.iconst 3, 1) := by decide +kernel
theorem dL_law_897 : decode cL_law 897 = .ok (.iadd, 1) := by decide +kernel
theorem dL_law_898 : decode cL_law 898 = .ok (.iaload, 1) := by decide +kernel
theorem dL_law_899 : decode cL_law 899 = .ok (.aload_n 0, 1) := by decide +kernel
theorem dL_law_900 : decode cL_law 900 = .ok (.iload_n 3, 1) := by decide +kernel
theorem dL_law_901 : decode cL_law 901 = .ok (.iconst 4, 1) := by decide +kernel
theorem dL_law_902 : decode cL_law 902 = .ok (.iadd, 1) := by decide +kernel
theorem dL_law_903 : decode cL_law 903 = .ok (.iaload, 1) := by decide +kernel
theorem dL_law_904 : decode cL_law 904 = .ok (.aload_n 0, 1) := by decide +kernel
theorem dL_law_905 : decode cL_law 905 = .ok (.iload_n 3, 1) := by decide +kernel
theorem dL_law_906 : decode cL_law 906 = .ok (.iconst 5, 1) := by decide +kernel
theorem dL_law_907 : decode cL_law 907 = .ok (.iadd, 1) := by decide +kernel
theorem dL_law_908 : decode cL_law 908 = .ok (.iaload, 1) := by decide +kernel
theorem dL_law_909 : decode cL_law 909 = .ok (.ifCond .eq 7, 3) := by decide +kernel
theorem dL_law_912 : decode cL_law 912 = .ok (.iconst 1, 1) := by decide +kernel
theorem dL_law_913 : decode cL_law 913 = .ok (.goto 4, 3) := by decide +kernel
theorem dL_law_916 : decode cL_law 916 = .ok (.iconst 0, 1) := by decide +kernel
theorem dL_law_917 : decode cL_law 917 = .ok (.invokevirtual 80, 3) := by decide +kernel
theorem dL_law_920 : decode cL_law 920 = .ok (.aload_n 2, 1) := by decide +kernel
theorem dL_law_921 : decode cL_law 921 = .ok (.aload_n 0, 1) := by decide +kernel
theorem dL_law_922 : decode cL_law 922 = .ok (.iload_n 3, 1) := by decide +kernel
theorem dL_law_923 : decode cL_law 923 = .ok (.iconst 1, 1) := by decide +kernel
theorem dL_law_924 : decode cL_law 924 = .ok (.iadd, 1) := by decide +kernel
theorem dL_law_925 : decode cL_law 925 = .ok (.iaload, 1) := by decide +kernel
theorem dL_law_926 : decode cL_law 926 = .ok (.aload_n 0, 1) := by decide +kernel
theorem dL_law_927 : decode cL_law 927 = .ok (.iload_n 3, 1) := by decide +kernel
theorem dL_law_928 : decode cL_law 928 = .ok (.iconst 2, 1) := by decide +kernel
theorem dL_law_929 : decode cL_law 929 = .ok (.iadd, 1) := by decide +kernel
theorem dL_law_930 : decode cL_law 930 = .ok (.iaload, 1) := by decide +kernel
theorem dL_law_931 : decode cL_law 931 = .ok (.aload_n 0, 1) := by decide +kernel
theorem dL_law_932 : decode cL_law 932 = .ok (.iload_n 3, 1) := by decide +kernel
theorem dL_law_933 : decode cL_law 933 = .ok (.iconst 3, 1) := by decide +kernel
theorem dL_law_934 : decode cL_law 934 = .ok (.iadd, 1) := by decide +kernel
theorem dL_law_935 : decode cL_law 935 = .ok (.iaload, 1) := by decide +kernel
theorem dL_law_936 : decode cL_law 936 = .ok (.aload_n 0, 1) := by decide +kernel
theorem dL_law_937 : decode cL_law 937 = .ok (.iload_n 3, 1) := by decide +kernel
theorem dL_law_938 : decode cL_law 938 = .ok (.iconst 4, 1) := by decide +kernel
theorem dL_law_939 : decode cL_law 939 = .ok (.iadd, 1) := by decide +kernel
theorem dL_law_940 : decode cL_law 940 = .ok (.iaload, 1) := by decide +kernel
theorem dL_law_941 : decode cL_law 941 = .ok (.aload_n 0, 1) := by decide +kernel
theorem dL_law_942 : decode cL_law 942 = .ok (.iload_n 3, 1) := by decide +kernel
theorem dL_law_943 : decode cL_law 943 = .ok (.iconst 5, 1) := by decide +kernel
theorem dL_law_944 : decode cL_law 944 = .ok (.iadd, 1) := by decide +kernel
theorem dL_law_945 : decode cL_law 945 = .ok (.iaload, 1) := by decide +kernel
theorem dL_law_946 : decode cL_law 946 = .ok (.ifCond .eq 7, 3) := by decide +kernel
theorem dL_law_949 : decode cL_law 949 = .ok (.iconst 1, 1) := by decide +kernel
theorem dL_law_950 : decode cL_law 950 = .ok (.goto 4, 3) := by decide +kernel
theorem dL_law_953 : decode cL_law 953 = .ok (.iconst 0, 1) := by decide +kernel
theorem dL_law_954 : decode cL_law 954 = .ok (.invokevirtual 84, 3) := by decide +kernel
theorem dL_law_957 : decode cL_law 957 = .ok (.lcmp, 1) := by decide +kernel
theorem dL_law_958 : decode cL_law 958 = .ok (.ifCond .eq 834, 3) := by decide +kernel
theorem dL_law_961 : decode cL_law 961 = .ok (.iconst 0, 1) := by decide +kernel
theorem dL_law_962 : decode cL_law 962 = .ok (.ireturn, 1) := by decide +kernel
theorem dL_law_963 : decode cL_law 963 = .ok (.aload_n 1, 1) := by decide +kernel
theorem dL_law_964 : decode cL_law 964 = .ok (.aload_n 0, 1) := by decide +kernel
theorem dL_law_965 : decode cL_law 965 = .ok (.iload_n 3, 1) := by decide +kernel
theorem dL_law_966 : decode cL_law 966 = .ok (.iconst 1, 1) := by decide +kernel
theorem dL_law_967 : decode cL_law 967 = .ok (.iadd, 1) := by decide +kernel
theorem dL_law_968 : decode cL_law 968 = .ok (.iaload, 1) := by decide +kernel
theorem dL_law_969 : decode cL_law 969 = .ok (.aload_n 0, 1) := by decide +kernel
theorem dL_law_970 : decode cL_law 970 = .ok (.iload_n 3, 1) := by decide +kernel
theorem dL_law_971 : decode cL_law 971 = .ok (.iconst 2, 1) := by decide +kernel
theorem dL_law_972 : decode cL_law 972 = .ok (.iadd, 1) := by decide +kernel
theorem dL_law_973 : decode cL_law 973 = .ok (.iaload, 1) := by decide +kernel
theorem dL_law_974 : decode cL_law 974 = .ok (.ifCond .eq 7, 3) := by decide +kernel
theorem dL_law_977 : decode cL_law 977 = .ok (.iconst 1, 1) := by decide +kernel
theorem dL_law_978 : decode cL_law 978 = .ok (.goto 4, 3) := by decide +kernel
theorem dL_law_981 : decode cL_law 981 = .ok (.iconst 0, 1) := by decide +kernel
theorem dL_law_982 : decode cL_law 982 = .ok (.invokevirtual 85, 3) := by decide +kernel
theorem dL_law_985 : decode cL_law 985 = .ok (.aload_n 2, 1) := by decide +kernel
theorem dL_law_986 : decode cL_law 986 = .ok (.aload_n 0, 1) := by decide +kernel
theorem dL_law_987 : decode cL_law 987 = .ok (.iload_n 3, 1) := by decide +kernel
theorem dL_law_988 : decode cL_law 988 = .ok (.iconst 1, 1) := by decide +kernel
theorem dL_law_989 : decode cL_law 989 = .ok (.iadd, 1) := by decide +kernel
theorem dL_law_990 : decode cL_law 990 = .ok (.iaload, 1) := by decide +kernel
theorem dL_law_991 : decode cL_law 991 = .ok (.aload_n 0, 1) := by decide +kernel
theorem dL_law_992 : decode cL_law 992 = .ok (.iload_n 3, 1) := by decide +kernel
theorem dL_law_993 : decode cL_law 993 = .ok (.iconst 2, 1) := by decide +kernel
theorem dL_law_994 : decode cL_law 994 = .ok (.iadd, 1) := by decide +kernel
theorem dL_law_995 : decode cL_law 995 = .ok (.iaload, 1) := by decide +kernel
theorem dL_law_996 : decode cL_law 996 = .ok (.ifCond .eq 7, 3) := by decide +kernel
theorem dL_law_999 : decode cL_law 999 = .ok (.iconst 1, 1) := by decide +kernel
theorem dL_law_1000 : decode cL_law 1000 = .ok (.goto 4, 3) := by decide +kernel
theorem dL_law_1003 : decode cL_law 1003 = .ok (.iconst 0, 1) := by decide +kernel
theorem dL_law_1004 : decode cL_law 1004 = .ok (.invokevirtual 89, 3) := by decide +kernel
theorem dL_law_1007 : decode cL_law 1007 = .ok (.lcmp, 1) := by decide +kernel
theorem dL_law_1008 : decode cL_law 1008 = .ok (.ifCond .eq 784, 3) := by decide +kernel
theorem dL_law_1011 : decode cL_law 1011 = .ok (.iconst 0, 1) := by decide +kernel
theorem dL_law_1012 : decode cL_law 1012 = .ok (.ireturn, 1) := by decide +kernel
theorem dL_law_1013 : decode cL_law 1013 = .ok (.aload_n 1, 1) := by decide +kernel
theorem dL_law_1014 : decode cL_law 1014 = .ok (.aload_n 0, 1) := by decide +kernel
theorem dL_law_1015 : decode cL_law 1015 = .ok (.iload_n 3, 1) := by decide +kernel
theorem dL_law_1016 : decode cL_law 1016 = .ok (.iconst 1, 1) := by decide +kernel
theorem dL_law_1017 : decode cL_law 1017 = .ok (.iadd, 1) := by decide +kernel
theorem dL_law_1018 : decode cL_law 1018 = .ok (.iaload, 1) := by decide +kernel
theorem dL_law_1019 : decode cL_law 1019 = .ok (.aload_n 0, 1) := by decide +kernel
theorem dL_law_1020 : decode cL_law 1020 = .ok (.iload_n 3, 1) := by decide +kernel
theorem dL_law_1021 : decode cL_law 1021 = .ok (.iconst 2, 1) := by decide +kernel
theorem dL_law_1022 : decode cL_law 1022 = .ok (.iadd, 1) := by decide +kernel
theorem dL_law_1023 : decode cL_law 1023 = .ok (.iaload, 1) := by decide +kernel
theorem dL_law_1024 : decode cL_law 1024 = .ok (.aload_n 0, 1) := by decide +kernel
theorem dL_law_1025 : decode cL_law 1025 = .ok (.iload_n 3, 1) := by decide +kernel
theorem dL_law_1026 : decode cL_law 1026 = .ok (.iconst 3, 1) := by decide +kernel
theorem dL_law_1027 : decode cL_law 1027 = .ok (.iadd, 1) := by decide +kernel
theorem dL_law_1028 : decode cL_law 1028 = .ok (.iaload, 1) := by decide +kernel
theorem dL_law_1029 : decode cL_law 1029 = .ok (.aload_n 0, 1) := by decide +kernel
theorem dL_law_1030 : decode cL_law 1030 = .ok (.iload_n 3, 1) := by decide +kernel
theorem dL_law_1031 : decode cL_law 1031 = .ok (.iconst 4, 1) := by decide +kernel
theorem dL_law_1032 : decode cL_law 1032 = .ok (.iadd, 1) := by decide +kernel
theorem dL_law_1033 : decode cL_law 1033 = .ok (.iaload, 1) := by decide +kernel
theorem dL_law_1034 : decode cL_law 1034 = .ok (.invokevirtual 90, 3) := by decide +kernel
theorem dL_law_1037 : decode cL_law 1037 = .ok (.aload_n 2, 1) := by decide +kernel
theorem dL_law_1038 : decode cL_law 1038 = .ok (.aload_n 0, 1) := by decide +kernel
theorem dL_law_1039 : decode cL_law 1039 = .ok (.iload_n 3, 1) := by decide +kernel
theorem dL_law_1040 : decode cL_law 1040 = .ok (.iconst 1, 1) := by decide +kernel
theorem dL_law_1041 : decode cL_law 1041 = .ok (.iadd, 1) := by decide +kernel
theorem dL_law_1042 : decode cL_law 1042 = .ok (.iaload, 1) := by decide +kernel
theorem dL_law_1043 : decode cL_law 1043 = .ok (.aload_n 0, 1) := by decide +kernel
theorem dL_law_1044 : decode cL_law 1044 = .ok (.iload_n 3, 1) := by decide +kernel
theorem dL_law_1045 : decode cL_law 1045 = .ok (.iconst 2, 1) := by decide +kernel
theorem dL_law_1046 : decode cL_law 1046 = .ok (.iadd, 1) := by decide +kernel
theorem dL_law_1047 : decode cL_law 1047 = .ok (.iaload, 1) := by decide +kernel
theorem dL_law_1048 : decode cL_law 1048 = .ok (.aload_n 0, 1) := by decide +kernel
theorem dL_law_1049 : decode cL_law 1049 = .ok (.iload_n 3, 1) := by decide +kernel
theorem dL_law_1050 : decode cL_law 1050 = .ok (.iconst 3, 1) := by decide +kernel
theorem dL_law_1051 : decode cL_law 1051 = .ok (.iadd, 1) := by decide +kernel
theorem dL_law_1052 : decode cL_law 1052 = .ok (.iaload, 1) := by decide +kernel
theorem dL_law_1053 : decode cL_law 1053 = .ok (.aload_n 0, 1) := by decide +kernel
theorem dL_law_1054 : decode cL_law 1054 = .ok (.iload_n 3, 1) := by decide +kernel
theorem dL_law_1055 : decode cL_law 1055 = .ok (.iconst 4, 1) := by decide +kernel
theorem dL_law_1056 : decode cL_law 1056 = .ok (.iadd, 1) := by decide +kernel
theorem dL_law_1057 : decode cL_law 1057 = .ok (.iaload, 1) := by decide +kernel
theorem dL_law_1058 : decode cL_law 1058 = .ok (.invokevirtual 93, 3) := by decide +kernel
theorem dL_law_1061 : decode cL_law 1061 = .ok (.if_icmp .eq 731, 3) := by decide +kernel
theorem dL_law_1064 : decode cL_law 1064 = .ok (.iconst 0, 1) := by decide +kernel
theorem dL_law_1065 : decode cL_law 1065 = .ok (.ireturn, 1) := by decide +kernel
theorem dL_law_1066 : decode cL_law 1066 = .ok (.aload_n 1, 1) := by decide +kernel
theorem dL_law_1067 : decode cL_law 1067 = .ok (.aload_n 0, 1) := by decide +kernel
theorem dL_law_1068 : decode cL_law 1068 = .ok (.iload_n 3, 1) := by decide +kernel
theorem dL_law_1069 : decode cL_law 1069 = .ok (.iconst 1, 1) := by decide +kernel
theorem dL_law_1070 : decode cL_law 1070 = .ok (.iadd, 1) := by decide +kernel
theorem dL_law_1071 : decode cL_law 1071 = .ok (.iaload, 1) := by decide +kernel
theorem dL_law_1072 : decode cL_law 1072 = .ok (.invokevirtual 94, 3) := by decide +kernel
theorem dL_law_1075 : decode cL_law 1075 = .ok (.aload_n 2, 1) := by decide +kernel
theorem dL_law_1076 : decode cL_law 1076 = .ok (.aload_n 0, 1) := by decide +kernel
theorem dL_law_1077 : decode cL_law 1077 = .ok (.iload_n 3, 1) := by decide +kernel
theorem dL_law_1078 : decode cL_law 1078 = .ok (.iconst 1, 1) := by decide +kernel
theorem dL_law_1079 : decode cL_law 1079 = .ok (.iadd, 1) := by decide +kernel
theorem dL_law_1080 : decode cL_law 1080 = .ok (.iaload, 1) := by decide +kernel
theorem dL_law_1081 : decode cL_law 1081 = .ok (.invokevirtual 97, 3) := by decide +kernel
theorem dL_law_1084 : decode cL_law 1084 = .ok (.if_icmp .eq 708, 3) := by decide +kernel
theorem dL_law_1087 : decode cL_law 1087 = .ok (.iconst 0, 1) := by decide +kernel
theorem dL_law_1088 : decode cL_law 1088 = .ok (.ireturn, 1) := by decide +kernel
theorem dL_law_1089 : decode cL_law 1089 = .ok (.aload_n 1, 1) := by decide +kernel
theorem dL_law_1090 : decode cL_law 1090 = .ok (.aload_n 0, 1) := by decide +kernel
theorem dL_law_1091 : decode cL_law 1091 = .ok (.iload_n 3, 1) := by decide +kernel
theorem dL_law_1092 : decode cL_law 1092 = .ok (.iconst 1, 1) := by decide +kernel
theorem dL_law_1093 : decode cL_law 1093 = .ok (.iadd, 1) := by decide +kernel
theorem dL_law_1094 : decode cL_law 1094 = .ok (.iaload, 1) := by decide +kernel
theorem dL_law_1095 : decode cL_law 1095 = .ok (.invokevirtual 98, 3) := by decide +kernel
theorem dL_law_1098 : decode cL_law 1098 = .ok (.aload_n 2, 1) := by decide +kernel
theorem dL_law_1099 : decode cL_law 1099 = .ok (.aload_n 0, 1) := by decide +kernel
theorem dL_law_1100 : decode cL_law 1100 = .ok (.iload_n 3, 1) := by decide +kernel
theorem dL_law_1101 : decode cL_law 1101 = .ok (.iconst 1, 1) := by decide +kernel
theorem dL_law_1102 : decode cL_law 1102 = .ok (.iadd, 1) := by decide +kernel
theorem dL_law_1103 : decode cL_law 1103 = .ok (.iaload, 1) := by decide +kernel
theorem dL_law_1104 : decode cL_law 1104 = .ok (.invokevirtual 101, 3) := by decide +kernel
theorem dL_law_1107 : decode cL_law 1107 = .ok (.if_icmp .eq 685, 3) := by decide +kernel
theorem dL_law_1110 : decode cL_law 1110 = .ok (.iconst 0, 1) := by decide +kernel
theorem dL_law_1111 : decode cL_law 1111 = .ok (.ireturn, 1) := by decide +kernel
theorem dL_law_1112 : decode cL_law 1112 = .ok (.aload_n 1, 1) := by decide +kernel
theorem dL_law_1113 : decode cL_law 1113 = .ok (.aload_n 0, 1) := by decide +kernel
theorem dL_law_1114 : decode cL_law 1114 = .ok (.iload_n 3, 1) := by decide +kernel
theorem dL_law_1115 : decode cL_law 1115 = .ok (.iconst 1, 1) := by decide +kernel
theorem dL_law_1116 : decode cL_law 1116 = .ok (.iadd, 1) := by decide +kernel
theorem dL_law_1117 : decode cL_law 1117 = .ok (.iaload, 1) := by decide +kernel
theorem dL_law_1118 : decode cL_law 1118 = .ok (.aload_n 0, 1) := by decide +kernel
theorem dL_law_1119 : decode cL_law 1119 = .ok (.iload_n 3, 1) := by decide +kernel
theorem dL_law_1120 : decode cL_law 1120 = .ok (.iconst 2, 1) := by decide +kernel
theorem dL_law_1121 : decode cL_law 1121 = .ok (.iadd, 1) := by decide +kernel
theorem dL_law_1122 : decode cL_law 1122 = .ok (.iaload, 1) := by decide +kernel
theorem dL_law_1123 : decode cL_law 1123 = .ok (.aload_n 0, 1) := by decide +kernel
theorem dL_law_1124 : decode cL_law 1124 = .ok (.iload_n 3, 1) := by decide +kernel
theorem dL_law_1125 : decode cL_law 1125 = .ok (.iconst 3, 1) := by decide +kernel
theorem dL_law_1126 : decode cL_law 1126 = .ok (.iadd, 1) := by decide +kernel
theorem dL_law_1127 : decode cL_law 1127 = .ok (.iaload, 1) := by decide +kernel
theorem dL_law_1128 : decode cL_law 1128 = .ok (.aload_n 0, 1) := by decide +kernel
theorem dL_law_1129 : decode cL_law 1129 = .ok (.iload_n 3, 1) := by decide +kernel
theorem dL_law_1130 : decode cL_law 1130 = .ok (.iconst 4, 1) := by decide +kernel
theorem dL_law_1131 : decode cL_law 1131 = .ok (.iadd, 1) := by decide +kernel
theorem dL_law_1132 : decode cL_law 1132 = .ok (.iaload, 1) := by decide +kernel
theorem dL_law_1133 : decode cL_law 1133 = .ok (.invokevirtual 102, 3) := by decide +kernel
theorem dL_law_1136 : decode cL_law 1136 = .ok (.aload_n 2, 1) := by decide +kernel
theorem dL_law_1137 : decode cL_law 1137 = .ok (.aload_n 0, 1) := by decide +kernel
theorem dL_law_1138 : decode cL_law 1138 = .ok (.iload_n 3, 1) := by decide +kernel
theorem dL_law_1139 : decode cL_law 1139 = .ok (.iconst 1, 1) := by decide +kernel
theorem dL_law_1140 : decode cL_law 1140 = .ok (.iadd, 1) := by decide +kernel
theorem dL_law_1141 : decode cL_law 1141 = .ok (.iaload, 1) := by decide +kernel
theorem dL_law_1142 : decode cL_law 1142 = .ok (.aload_n 0, 1) := by decide +kernel
theorem dL_law_1143 : decode cL_law 1143 = .ok (.iload_n 3, 1) := by decide +kernel
theorem dL_law_1144 : decode cL_law 1144 = .ok (.iconst 2, 1) := by decide +kernel
theorem dL_law_1145 : decode cL_law 1145 = .ok (.iadd, 1) := by decide +kernel
theorem dL_law_1146 : decode cL_law 1146 = .ok (.iaload, 1) := by decide +kernel
theorem dL_law_1147 : decode cL_law 1147 = .ok (.aload_n 0, 1) := by decide +kernel
theorem dL_law_1148 : decode cL_law 1148 = .ok (.iload_n 3, 1) := by decide +kernel
theorem dL_law_1149 : decode cL_law 1149 = .ok (.iconst 3, 1) := by decide +kernel
theorem dL_law_1150 : decode cL_law 1150 = .ok (.iadd, 1) := by decide +kernel
theorem dL_law_1151 : decode cL_law 1151 = .ok (.iaload, 1) := by decide +kernel
theorem dL_law_1152 : decode cL_law 1152 = .ok (.aload_n 0, 1) := by decide +kernel
theorem dL_law_1153 : decode cL_law 1153 = .ok (.iload_n 3, 1) := by decide +kernel
theorem dL_law_1154 : decode cL_law 1154 = .ok (.iconst 4, 1) := by decide +kernel
theorem dL_law_1155 : decode cL_law 1155 = .ok (.iadd, 1) := by decide +kernel
theorem dL_law_1156 : decode cL_law 1156 = .ok (.iaload, 1) := by decide +kernel
theorem dL_law_1157 : decode cL_law 1157 = .ok (.invokevirtual 105, 3) := by decide +kernel
theorem dL_law_1160 : decode cL_law 1160 = .ok (.if_icmp .eq 632, 3) := by decide +kernel
theorem dL_law_1163 : decode cL_law 1163 = .ok (.iconst 0, 1) := by decide +kernel
theorem dL_law_1164 : decode cL_law 1164 = .ok (.ireturn, 1) := by decide +kernel
theorem dL_law_1165 : decode cL_law 1165 = .ok (.aload_n 1, 1) := by decide +kernel
theorem dL_law_1166 : decode cL_law 1166 = .ok (.aload_n 0, 1) := by decide +kernel
theorem dL_law_1167 : decode cL_law 1167 = .ok (.iload_n 3, 1) := by decide +kernel
theorem dL_law_1168 : decode cL_law 1168 = .ok (.iconst 1, 1) := by decide +kernel
theorem dL_law_1169 : decode cL_law 1169 = .ok (.iadd, 1) := by decide +kernel
theorem dL_law_1170 : decode cL_law 1170 = .ok (.iaload, 1) := by decide +kernel
theorem dL_law_1171 : decode cL_law 1171 = .ok (.aload_n 0, 1) := by decide +kernel
theorem dL_law_1172 : decode cL_law 1172 = .ok (.iload_n 3, 1) := by decide +kernel
theorem dL_law_1173 : decode cL_law 1173 = .ok (.iconst 2, 1) := by decide +kernel
theorem dL_law_1174 : decode cL_law 1174 = .ok (.iadd, 1) := by decide +kernel
theorem dL_law_1175 : decode cL_law 1175 = .ok (.iaload, 1) := by decide +kernel
theorem dL_law_1176 : decode cL_law 1176 = .ok (.aload_n 0, 1) := by decide +kernel
theorem dL_law_1177 : decode cL_law 1177 = .ok (.iload_n 3, 1) := by decide +kernel
theorem dL_law_1178 : decode cL_law 1178 = .ok (.iconst 3, 1) := by decide +kernel
theorem dL_law_1179 : decode cL_law 1179 = .ok (.iadd, 1) := by decide +kernel
theorem dL_law_1180 : decode cL_law 1180 = .ok (.iaload, 1) := by decide +kernel
theorem dL_law_1181 : decode cL_law 1181 = .ok (.aload_n 0, 1) := by decide +kernel
theorem dL_law_1182 : decode cL_law 1182 = .ok (.iload_n 3, 1) := by decide +kernel
theorem dL_law_1183 : decode cL_law 1183 = .ok (.iconst 4, 1) := by decide +kernel
theorem dL_law_1184 : decode cL_law 1184 = .ok (.iadd, 1) := by decide +kernel
theorem dL_law_1185 : decode cL_law 1185 = .ok (.iaload, 1) := by decide +kernel
theorem dL_law_1186 : decode cL_law 1186 = .ok (.ifCond .eq 7, 3) := by decide +kernel
theorem dL_law_1189 : decode cL_law 1189 = .ok (.iconst 1, 1) := by decide +kernel
theorem dL_law_1190 : decode cL_law 1190 = .ok (.goto 4, 3) := by decide +kernel
theorem dL_law_1193 : decode cL_law 1193 = .ok (.iconst 0, 1) := by decide +kernel
theorem dL_law_1194 : decode cL_law 1194 = .ok (.invokevirtual 106, 3) := by decide +kernel
theorem dL_law_1197 : decode cL_law 1197 = .ok (.aload_n 2, 1) := by decide +kernel
theorem dL_law_1198 : decode cL_law 1198 = .ok (.aload_n 0, 1) := by decide +kernel
theorem dL_law_1199 : decode cL_law 1199 = .ok (.iload_n 3, 1) := by decide +kernel
theorem dL_law_1200 : decode cL_law 1200 = .ok (.iconst 1, 1) := by decide +kernel
theorem dL_law_1201 : decode cL_law 1201 = .ok (.iadd, 1) := by decide +kernel
theorem dL_law_1202 : decode cL_law 1202 = .ok (.iaload, 1) := by decide +kernel
theorem dL_law_1203 : decode cL_law 1203 = .ok (.aload_n 0, 1) := by decide +kernel
theorem dL_law_1204 : decode cL_law 1204 = .ok (.iload_n 3, 1) := by decide +kernel
theorem dL_law_1205 : decode cL_law 1205 = .ok (.iconst 2, 1) := by decide +kernel
theorem dL_law_1206 : decode cL_law 1206 = .ok (.iadd, 1) := by decide +kernel
theorem dL_law_1207 : decode cL_law 1207 = .ok (.iaload, 1) := by decide +kernel
theorem dL_law_1208 : decode cL_law 1208 = .ok (.aload_n 0, 1) := by decide +kernel
theorem dL_law_1209 : decode cL_law 1209 = .ok (.iload_n 3, 1) := by decide +kernel
theorem dL_law_1210 : decode cL_law 1210 = .ok (.iconst 3, 1) := by decide +kernel
theorem dL_law_1211 : decode cL_law 1211 = .ok (.iadd, 1) := by decide +kernel
theorem dL_law_1212 : decode cL_law 1212 = .ok (.iaload, 1) := by decide +kernel
theorem dL_law_1213 : decode cL_law 1213 = .ok (.aload_n 0, 1) := by decide +kernel
theorem dL_law_1214 : decode cL_law 1214 = .ok (.iload_n 3, 1) := by decide +kernel
theorem dL_law_1215 : decode cL_law 1215 = .ok (.iconst 4, 1) := by decide +kernel
theorem dL_law_1216 : decode cL_law 1216 = .ok (.iadd, 1) := by decide +kernel
theorem dL_law_1217 : decode cL_law 1217 = .ok (.iaload, 1) := by decide +kernel
theorem dL_law_1218 : decode cL_law 1218 = .ok (.ifCond .eq 7, 3) := by decide +kernel
theorem dL_law_1221 : decode cL_law 1221 = .ok (.iconst 1, 1) := by decide +kernel
theorem dL_law_1222 : decode cL_law 1222 = .ok (.goto 4, 3) := by decide +kernel
theorem dL_law_1225 : decode cL_law 1225 = .ok (.iconst 0, 1) := by decide +kernel
theorem dL_law_1226 : decode cL_law 1226 = .ok (.invokevirtual 110, 3) := by decide +kernel
theorem dL_law_1229 : decode cL_law 1229 = .ok (.if_icmp .eq 563, 3) := by decide +kernel
theorem dL_law_1232 : decode cL_law 1232 = .ok (.iconst 0, 1) := by decide +kernel
theorem dL_law_1233 : decode cL_law 1233 = .ok (.ireturn, 1) := by decide +kernel
theorem dL_law_1234 : decode cL_law 1234 = .ok (.aload_n 1, 1) := by decide +kernel
theorem dL_law_1235 : decode cL_law 1235 = .ok (.aload_n 0, 1) := by decide +kernel
theorem dL_law_1236 : decode cL_law 1236 = .ok (.iload_n 3, 1) := by decide +kernel
theorem dL_law_1237 : decode cL_law 1237 = .ok (.iconst 1, 1) := by decide +kernel
theorem dL_law_1238 : decode cL_law 1238 = .ok (.iadd, 1) := by decide +kernel
theorem dL_law_1239 : decode cL_law 1239 = .ok (.iaload, 1) := by decide +kernel
theorem dL_law_1240 : decode cL_law 1240 = .ok (.aload_n 0, 1) := by decide +kernel
theorem dL_law_1241 : decode cL_law 1241 = .ok (.iload_n 3, 1) := by decide +kernel
theorem dL_law_1242 : decode cL_law 1242 = .ok (.iconst 2, 1) := by decide +kernel
theorem dL_law_1243 : decode cL_law 1243 = .ok (.iadd, 1) := by decide +kernel
theorem dL_law_1244 : decode cL_law 1244 = .ok (.iaload, 1) := by decide +kernel
theorem dL_law_1245 : decode cL_law 1245 = .ok (.aload_n 0, 1) := by decide +kernel
theorem dL_law_1246 : decode cL_law 1246 = .ok (.iload_n 3, 1) := by decide +kernel
theorem dL_law_1247 : decode cL_law 1247 = .ok (.iconst 3, 1) := by decide +kernel
theorem dL_law_1248 : decode cL_law 1248 = .ok (.iadd, 1) := by decide +kernel
theorem dL_law_1249 : decode cL_law 1249 = .ok (.iaload, 1) := by decide +kernel
theorem dL_law_1250 : decode cL_law 1250 = .ok (.invokevirtual 111, 3) := by decide +kernel
theorem dL_law_1253 : decode cL_law 1253 = .ok (.aload_n 2, 1) := by decide +kernel
theorem dL_law_1254 : decode cL_law 1254 = .ok (.aload_n 0, 1) := by decide +kernel
theorem dL_law_1255 : decode cL_law 1255 = .ok (.iload_n 3, 1) := by decide +kernel
theorem dL_law_1256 : decode cL_law 1256 = .ok (.iconst 1, 1) := by decide +kernel
theorem dL_law_1257 : decode cL_law 1257 = .ok (.iadd, 1) := by decide +kernel
theorem dL_law_1258 : decode cL_law 1258 = .ok (.iaload, 1) := by decide +kernel
theorem dL_law_1259 : decode cL_law 1259 = .ok (.aload_n 0, 1) := by decide +kernel
theorem dL_law_1260 : decode cL_law 1260 = .ok (.iload_n 3, 1) := by decide +kernel
theorem dL_law_1261 : decode cL_law 1261 = .ok (.iconst 2, 1) := by decide +kernel
theorem dL_law_1262 : decode cL_law 1262 = .ok (.iadd, 1) := by decide +kernel
theorem dL_law_1263 : decode cL_law 1263 = .ok (.iaload, 1) := by decide +kernel
theorem dL_law_1264 : decode cL_law 1264 = .ok (.aload_n 0, 1) := by decide +kernel
theorem dL_law_1265 : decode cL_law 1265 = .ok (.iload_n 3, 1) := by decide +kernel
theorem dL_law_1266 : decode cL_law 1266 = .ok (.iconst 3, 1) := by decide +kernel
theorem dL_law_1267 : decode cL_law 1267 = .ok (.iadd, 1) := by decide +kernel
theorem dL_law_1268 : decode cL_law 1268 = .ok (.iaload, 1) := by decide +kernel
theorem dL_law_1269 : decode cL_law 1269 = .ok (.invokevirtual 114, 3) := by decide +kernel
theorem dL_law_1272 : decode cL_law 1272 = .ok (.if_icmp .eq 520, 3) := by decide +kernel
theorem dL_law_1275 : decode cL_law 1275 = .ok (.iconst 0, 1) := by decide +kernel
theorem dL_law_1276 : decode cL_law 1276 = .ok (.ireturn, 1) := by decide +kernel
theorem dL_law_1277 : decode cL_law 1277 = .ok (.aload_n 1, 1) := by decide +kernel
theorem dL_law_1278 : decode cL_law 1278 = .ok (.aload_n 0, 1) := by decide +kernel
theorem dL_law_1279 : decode cL_law 1279 = .ok (.iload_n 3, 1) := by decide +kernel
theorem dL_law_1280 : decode cL_law 1280 = .ok (.iconst 1, 1) := by decide +kernel
theorem dL_law_1281 : decode cL_law 1281 = .ok (.iadd, 1) := by decide +kernel
theorem dL_law_1282 : decode cL_law 1282 = .ok (.iaload, 1) := by decide +kernel
theorem dL_law_1283 : decode cL_law 1283 = .ok (.aload_n 0, 1) := by decide +kernel
theorem dL_law_1284 : decode cL_law 1284 = .ok (.iload_n 3, 1) := by decide +kernel
theorem dL_law_1285 : decode cL_law 1285 = .ok (.iconst 2, 1) := by decide +kernel
theorem dL_law_1286 : decode cL_law 1286 = .ok (.iadd, 1) := by decide +kernel
theorem dL_law_1287 : decode cL_law 1287 = .ok (.iaload, 1) := by decide +kernel
theorem dL_law_1288 : decode cL_law 1288 = .ok (.aload_n 0, 1) := by decide +kernel
theorem dL_law_1289 : decode cL_law 1289 = .ok (.iload_n 3, 1) := by decide +kernel
theorem dL_law_1290 : decode cL_law 1290 = .ok (.iconst 3, 1) := by decide +kernel
theorem dL_law_1291 : decode cL_law 1291 = .ok (.iadd, 1) := by decide +kernel
theorem dL_law_1292 : decode cL_law 1292 = .ok (.iaload, 1) := by decide +kernel
theorem dL_law_1293 : decode cL_law 1293 = .ok (.ifCond .eq 7, 3) := by decide +kernel
theorem dL_law_1296 : decode cL_law 1296 = .ok (.iconst 1, 1) := by decide +kernel
theorem dL_law_1297 : decode cL_law 1297 = .ok (.goto 4, 3) := by decide +kernel
theorem dL_law_1300 : decode cL_law 1300 = .ok (.iconst 0, 1) := by decide +kernel
theorem dL_law_1301 : decode cL_law 1301 = .ok (.invokevirtual 115, 3) := by decide +kernel
theorem dL_law_1304 : decode cL_law 1304 = .ok (.aload_n 2, 1) := by decide +kernel
theorem dL_law_1305 : decode cL_law 1305 = .ok (.aload_n 0, 1) := by decide +kernel
theorem dL_law_1306 : decode cL_law 1306 = .ok (.iload_n 3, 1) := by decide +kernel
theorem dL_law_1307 : decode cL_law 1307 = .ok (.iconst 1, 1) := by decide +kernel
theorem dL_law_1308 : decode cL_law 1308 = .ok (.iadd, 1) := by decide +kernel
theorem dL_law_1309 : decode cL_law 1309 = .ok (.iaload, 1) := by decide +kernel
theorem dL_law_1310 : decode cL_law 1310 = .ok (.aload_n 0, 1) := by decide +kernel
theorem dL_law_1311 : decode cL_law 1311 = .ok (.iload_n 3, 1) := by decide +kernel
theorem dL_law_1312 : decode cL_law 1312 = .ok (.iconst 2, 1) := by decide +kernel
theorem dL_law_1313 : decode cL_law 1313 = .ok (.iadd, 1) := by decide +kernel
theorem dL_law_1314 : decode cL_law 1314 = .ok (.iaload, 1) := by decide +kernel
theorem dL_law_1315 : decode cL_law 1315 = .ok (.aload_n 0, 1) := by decide +kernel
theorem dL_law_1316 : decode cL_law 1316 = .ok (.iload_n 3, 1) := by decide +kernel
theorem dL_law_1317 : decode cL_law 1317 = .ok (.iconst 3, 1) := by decide +kernel
theorem dL_law_1318 : decode cL_law 1318 = .ok (.iadd, 1) := by decide +kernel
theorem dL_law_1319 : decode cL_law 1319 = .ok (.iaload, 1) := by decide +kernel
theorem dL_law_1320 : decode cL_law 1320 = .ok (.ifCond .eq 7, 3) := by decide +kernel
theorem dL_law_1323 : decode cL_law 1323 = .ok (.iconst 1, 1) := by decide +kernel
theorem dL_law_1324 : decode cL_law 1324 = .ok (.goto 4, 3) := by decide +kernel
theorem dL_law_1327 : decode cL_law 1327 = .ok (.iconst 0, 1) := by decide +kernel
theorem dL_law_1328 : decode cL_law 1328 = .ok (.invokevirtual 118, 3) := by decide +kernel
theorem dL_law_1331 : decode cL_law 1331 = .ok (.if_icmp .eq 461, 3) := by decide +kernel
theorem dL_law_1334 : decode cL_law 1334 = .ok (.iconst 0, 1) := by decide +kernel
theorem dL_law_1335 : decode cL_law 1335 = .ok (.ireturn, 1) := by decide +kernel
theorem dL_law_1336 : decode cL_law 1336 = .ok (.aload_n 1, 1) := by decide +kernel
theorem dL_law_1337 : decode cL_law 1337 = .ok (.aload_n 0, 1) := by decide +kernel
theorem dL_law_1338 : decode cL_law 1338 = .ok (.iload_n 3, 1) := by decide +kernel
theorem dL_law_1339 : decode cL_law 1339 = .ok (.iconst 1, 1) := by decide +kernel
theorem dL_law_1340 : decode cL_law 1340 = .ok (.iadd, 1) := by decide +kernel
theorem dL_law_1341 : decode cL_law 1341 = .ok (.iaload, 1) := by decide +kernel
theorem dL_law_1342 : decode cL_law 1342 = .ok (.aload_n 0, 1) := by decide +kernel
theorem dL_law_1343 : decode cL_law 1343 = .ok (.iload_n 3, 1) := by decide +kernel
theorem dL_law_1344 : decode cL_law 1344 = .ok (.iconst 2, 1) := by decide +kernel
theorem dL_law_1345 : decode cL_law 1345 = .ok (.iadd, 1) := by decide +kernel
theorem dL_law_1346 : decode cL_law 1346 = .ok (.iaload, 1) := by decide +kernel
theorem dL_law_1347 : decode cL_law 1347 = .ok (.invokevirtual 119, 3) := by decide +kernel
theorem dL_law_1350 : decode cL_law 1350 = .ok (.aload_n 2, 1) := by decide +kernel
theorem dL_law_1351 : decode cL_law 1351 = .ok (.aload_n 0, 1) := by decide +kernel
theorem dL_law_1352 : decode cL_law 1352 = .ok (.iload_n 3, 1) := by decide +kernel
theorem dL_law_1353 : decode cL_law 1353 = .ok (.iconst 1, 1) := by decide +kernel
theorem dL_law_1354 : decode cL_law 1354 = .ok (.iadd, 1) := by decide +kernel
theorem dL_law_1355 : decode cL_law 1355 = .ok (.iaload, 1) := by decide +kernel
theorem dL_law_1356 : decode cL_law 1356 = .ok (.aload_n 0, 1) := by decide +kernel
theorem dL_law_1357 : decode cL_law 1357 = .ok (.iload_n 3, 1) := by decide +kernel
theorem dL_law_1358 : decode cL_law 1358 = .ok (.iconst 2, 1) := by decide +kernel
theorem dL_law_1359 : decode cL_law 1359 = .ok (.iadd, 1) := by decide +kernel
theorem dL_law_1360 : decode cL_law 1360 = .ok (.iaload, 1) := by decide +kernel
theorem dL_law_1361 : decode cL_law 1361 = .ok (.invokevirtual 122, 3) := by decide +kernel
theorem dL_law_1364 : decode cL_law 1364 = .ok (.if_icmp .eq 428, 3) := by decide +kernel
theorem dL_law_1367 : decode cL_law 1367 = .ok (.iconst 0, 1) := by decide +kernel
theorem dL_law_1368 : decode cL_law 1368 = .ok (.ireturn, 1) := by decide +kernel
theorem dL_law_1369 : decode cL_law 1369 = .ok (.aload_n 1, 1) := by decide +kernel
theorem dL_law_1370 : decode cL_law 1370 = .ok (.aload_n 0, 1) := by decide +kernel
theorem dL_law_1371 : decode cL_law 1371 = .ok (.iload_n 3, 1) := by decide +kernel
theorem dL_law_1372 : decode cL_law 1372 = .ok (.iconst 1, 1) := by decide +kernel
theorem dL_law_1373 : decode cL_law 1373 = .ok (.iadd, 1) := by decide +kernel
theorem dL_law_1374 : decode cL_law 1374 = .ok (.iaload, 1) := by decide +kernel
theorem dL_law_1375 : decode cL_law 1375 = .ok (.aload_n 0, 1) := by decide +kernel
theorem dL_law_1376 : decode cL_law 1376 = .ok (.iload_n 3, 1) := by decide +kernel
theorem dL_law_1377 : decode cL_law 1377 = .ok (.iconst 2, 1) := by decide +kernel
theorem dL_law_1378 : decode cL_law 1378 = .ok (.iadd, 1) := by decide +kernel
theorem dL_law_1379 : decode cL_law 1379 = .ok (.iaload, 1) := by decide +kernel
theorem dL_law_1380 : decode cL_law 1380 = .ok (.aload_n 0, 1) := by decide +kernel
theorem dL_law_1381 : decode cL_law 1381 = .ok (.iload_n 3, 1) := by decide +kernel
theorem dL_law_1382 : decode cL_law 1382 = .ok (.iconst 3, 1) := by decide +kernel
theorem dL_law_1383 : decode cL_law 1383 = .ok (.iadd, 1) := by decide +kernel
theorem dL_law_1384 : decode cL_law 1384 = .ok (.iaload, 1) := by decide +kernel
theorem dL_law_1385 : decode cL_law 1385 = .ok (.invokevirtual 123, 3) := by decide +kernel
theorem dL_law_1388 : decode cL_law 1388 = .ok (.aload_n 2, 1) := by decide +kernel
theorem dL_law_1389 : decode cL_law 1389 = .ok (.aload_n 0, 1) := by decide +kernel
theorem dL_law_1390 : decode cL_law 1390 = .ok (.iload_n 3, 1) := by decide +kernel
theorem dL_law_1391 : decode cL_law 1391 = .ok (.iconst 1, 1) := by decide +kernel
theorem dL_law_1392 : decode cL_law 1392 = .ok (.iadd, 1) := by decide +kernel
theorem dL_law_1393 : decode cL_law 1393 = .ok (.iaload, 1) := by decide +kernel
theorem dL_law_1394 : decode cL_law 1394 = .ok (.aload_n 0, 1) := by decide +kernel
theorem dL_law_1395 : decode cL_law 1395 = .ok (.iload_n 3, 1) := by decide +kernel
theorem dL_law_1396 : decode cL_law 1396 = .ok (.iconst 2, 1) := by decide +kernel
theorem dL_law_1397 : decode cL_law 1397 = .ok (.iadd, 1) := by decide +kernel
theorem dL_law_1398 : decode cL_law 1398 = .ok (.iaload, 1) := by decide +kernel
theorem dL_law_1399 : decode cL_law 1399 = .ok (.aload_n 0, 1) := by decide +kernel
theorem dL_law_1400 : decode cL_law 1400 = .ok (.iload_n 3, 1) := by decide +kernel
theorem dL_law_1401 : decode cL_law 1401 = .ok (.iconst 3, 1) := by decide +kernel
theorem dL_law_1402 : decode cL_law 1402 = .ok (.iadd, 1) := by decide +kernel
theorem dL_law_1403 : decode cL_law 1403 = .ok (.iaload, 1) := by decide +kernel
theorem dL_law_1404 : decode cL_law 1404 = .ok (.invokevirtual 126, 3) := by decide +kernel
theorem dL_law_1407 : decode cL_law 1407 = .ok (.if_icmp .eq 385, 3) := by decide +kernel
theorem dL_law_1410 : decode cL_law 1410 = .ok (.iconst 0, 1) := by decide +kernel
theorem dL_law_1411 : decode cL_law 1411 = .ok (.ireturn, 1) := by decide +kernel
theorem dL_law_1412 : decode cL_law 1412 = .ok (.aload_n 1, 1) := by decide +kernel
theorem dL_law_1413 : decode cL_law 1413 = .ok (.aload_n 0, 1) := by decide +kernel
theorem dL_law_1414 : decode cL_law 1414 = .ok (.iload_n 3, 1) := by decide +kernel
theorem dL_law_1415 : decode cL_law 1415 = .ok (.iconst 1, 1) := by decide +kernel
theorem dL_law_1416 : decode cL_law 1416 = .ok (.iadd, 1) := by decide +kernel
theorem dL_law_1417 : decode cL_law 1417 = .ok (.iaload, 1) := by decide +kernel
theorem dL_law_1418 : decode cL_law 1418 = .ok (.aload_n 0, 1) := by decide +kernel
theorem dL_law_1419 : decode cL_law 1419 = .ok (.iload_n 3, 1) := by decide +kernel
theorem dL_law_1420 : decode cL_law 1420 = .ok (.iconst 2, 1) := by decide +kernel
theorem dL_law_1421 : decode cL_law 1421 = .ok (.iadd, 1) := by decide +kernel
theorem dL_law_1422 : decode cL_law 1422 = .ok (.iaload, 1) := by decide +kernel
theorem dL_law_1423 : decode cL_law 1423 = .ok (.aload_n 0, 1) := by decide +kernel
theorem dL_law_1424 : decode cL_law 1424 = .ok (.iload_n 3, 1) := by decide +kernel
theorem dL_law_1425 : decode cL_law 1425 = .ok (.iconst 3, 1) := by decide +kernel
theorem dL_law_1426 : decode cL_law 1426 = .ok (.iadd, 1) := by decide +kernel
theorem dL_law_1427 : decode cL_law 1427 = .ok (.iaload, 1) := by decide +kernel
theorem dL_law_1428 : decode cL_law 1428 = .ok (.aload_n 0, 1) := by decide +kernel
theorem dL_law_1429 : decode cL_law 1429 = .ok (.iload_n 3, 1) := by decide +kernel
theorem dL_law_1430 : decode cL_law 1430 = .ok (.iconst 4, 1) := by decide +kernel
theorem dL_law_1431 : decode cL_law 1431 = .ok (.iadd, 1) := by decide +kernel
theorem dL_law_1432 : decode cL_law 1432 = .ok (.iaload, 1) := by decide +kernel
theorem dL_law_1433 : decode cL_law 1433 = .ok (.aload_n 0, 1) := by decide +kernel
theorem dL_law_1434 : decode cL_law 1434 = .ok (.iload_n 3, 1) := by decide +kernel
theorem dL_law_1435 : decode cL_law 1435 = .ok (.iconst 5, 1) := by decide +kernel
theorem dL_law_1436 : decode cL_law 1436 = .ok (.iadd, 1) := by decide +kernel
theorem dL_law_1437 : decode cL_law 1437 = .ok (.iaload, 1) := by decide +kernel
theorem dL_law_1438 : decode cL_law 1438 = .ok (.invokevirtual 127, 3) := by decide +kernel
theorem dL_law_1441 : decode cL_law 1441 = .ok (.aload_n 2, 1) := by decide +kernel
theorem dL_law_1442 : decode cL_law 1442 = .ok (.aload_n 0, 1) := by decide +kernel
theorem dL_law_1443 : decode cL_law 1443 = .ok (.iload_n 3, 1) := by decide +kernel
theorem dL_law_1444 : decode cL_law 1444 = .ok (.iconst 1, 1) := by decide +kernel
theorem dL_law_1445 : decode cL_law 1445 = .ok (.iadd, 1) := by decide +kernel
theorem dL_law_1446 : decode cL_law 1446 = .ok (.iaload, 1) := by decide +kernel
theorem dL_law_1447 : decode cL_law 1447 = .ok (.aload_n 0, 1) := by decide +kernel
theorem dL_law_1448 : decode cL_law 1448 = .ok (.iload_n 3, 1) := by decide +kernel
theorem dL_law_1449 : decode cL_law 1449 = .ok (.iconst 2, 1) := by decide +kernel
theorem dL_law_1450 : decode cL_law 1450 = .ok (.iadd, 1) := by decide +kernel
theorem dL_law_1451 : decode cL_law 1451 = .ok (.iaload, 1) := by decide +kernel
theorem dL_law_1452 : decode cL_law 1452 = .ok (.aload_n 0, 1) := by decide +kernel
theorem dL_law_1453 : decode cL_law 1453 = .ok (.iload_n 3, 1) := by decide +kernel
theorem dL_law_1454 : decode cL_law 1454 = .ok (.iconst 3, 1) := by decide +kernel
theorem dL_law_1455 : decode cL_law 1455 = .ok (.iadd, 1) := by decide +kernel
theorem dL_law_1456 : decode cL_law 1456 = .ok (.iaload, 1) := by decide +kernel
theorem dL_law_1457 : decode cL_law 1457 = .ok (.aload_n 0, 1) := by decide +kernel
theorem dL_law_1458 : decode cL_law 1458 = .ok (.iload_n 3, 1) := by decide +kernel
theorem dL_law_1459 : decode cL_law 1459 = .ok (.iconst 4, 1) := by decide +kernel
theorem dL_law_1460 : decode cL_law 1460 = .ok (.iadd, 1) := by decide +kernel
theorem dL_law_1461 : decode cL_law 1461 = .ok (.iaload, 1) := by decide +kernel
theorem dL_law_1462 : decode cL_law 1462 = .ok (.aload_n 0, 1) := by decide +kernel
theorem dL_law_1463 : decode cL_law 1463 = .ok (.iload_n 3, 1) := by decide +kernel
theorem dL_law_1464 : decode cL_law 1464 = .ok (.iconst 5, 1) := by decide +kernel
theorem dL_law_1465 : decode cL_law 1465 = .ok (.iadd, 1) := by decide +kernel
theorem dL_law_1466 : decode cL_law 1466 = .ok (.iaload, 1) := by decide +kernel
theorem dL_law_1467 : decode cL_law 1467 = .ok (.invokevirtual 130, 3) := by decide +kernel
theorem dL_law_1470 : decode cL_law 1470 = .ok (.if_icmp .eq 322, 3) := by decide +kernel
theorem dL_law_1473 : decode cL_law 1473 = .ok (.iconst 0, 1) := by decide +kernel
theorem dL_law_1474 : decode cL_law 1474 = .ok (.ireturn, 1) := by decide +kernel
theorem dL_law_1475 : decode cL_law 1475 = .ok (.aload_n 1, 1) := by decide +kernel
theorem dL_law_1476 : decode cL_law 1476 = .ok (.aload_n 0, 1) := by decide +kernel
theorem dL_law_1477 : decode cL_law 1477 = .ok (.iload_n 3, 1) := by decide +kernel
theorem dL_law_1478 : decode cL_law 1478 = .ok (.iconst 1, 1) := by decide +kernel
theorem dL_law_1479 : decode cL_law 1479 = .ok (.iadd, 1) := by decide +kernel
theorem dL_law_1480 : decode cL_law 1480 = .ok (.iaload, 1) := by decide +kernel
theorem dL_law_1481 : decode cL_law 1481 = .ok (.aload_n 0, 1) := by decide +kernel
theorem dL_law_1482 : decode cL_law 1482 = .ok (.iload_n 3, 1) := by decide +kernel
theorem dL_law_1483 : decode cL_law 1483 = .ok (.iconst 2, 1) := by decide +kernel
theorem dL_law_1484 : decode cL_law 1484 = .ok (.iadd, 1) := by decide +kernel
theorem dL_law_1485 : decode cL_law 1485 = .ok (.iaload, 1) := by decide +kernel
theorem dL_law_1486 : decode cL_law 1486 = .ok (.invokevirtual 131, 3) := by decide +kernel
theorem dL_law_1489 : decode cL_law 1489 = .ok (.aload_n 2, 1) := by decide +kernel
theorem dL_law_1490 : decode cL_law 1490 = .ok (.aload_n 0, 1) := by decide +kernel
theorem dL_law_1491 : decode cL_law 1491 = .ok (.iload_n 3, 1) := by decide +kernel
theorem dL_law_1492 : decode cL_law 1492 = .ok (.iconst 1, 1) := by decide +kernel
theorem dL_law_1493 : decode cL_law 1493 = .ok (.iadd, 1) := by decide +kernel
theorem dL_law_1494 : decode cL_law 1494 = .ok (.iaload, 1) := by decide +kernel
theorem dL_law_1495 : decode cL_law 1495 = .ok (.aload_n 0, 1) := by decide +kernel
theorem dL_law_1496 : decode cL_law 1496 = .ok (.iload_n 3, 1) := by decide +kernel
theorem dL_law_1497 : decode cL_law 1497 = .ok (.iconst 2, 1) := by decide +kernel
theorem dL_law_1498 : decode cL_law 1498 = .ok (.iadd, 1) := by decide +kernel
theorem dL_law_1499 : decode cL_law 1499 = .ok (.iaload, 1) := by decide +kernel
theorem dL_law_1500 : decode cL_law 1500 = .ok (.invokevirtual 134, 3) := by decide +kernel
theorem dL_law_1503 : decode cL_law 1503 = .ok (.if_icmp .eq 289, 3) := by decide +kernel
theorem dL_law_1506 : decode cL_law 1506 = .ok (.iconst 0, 1) := by decide +kernel
theorem dL_law_1507 : decode cL_law 1507 = .ok (.ireturn, 1) := by decide +kernel
theorem dL_law_1508 : decode cL_law 1508 = .ok (.aload_n 1, 1) := by decide +kernel
theorem dL_law_1509 : decode cL_law 1509 = .ok (.aload_n 0, 1) := by decide +kernel
theorem dL_law_1510 : decode cL_law 1510 = .ok (.iload_n 3, 1) := by decide +kernel
theorem dL_law_1511 : decode cL_law 1511 = .ok (.iconst 1, 1) := by decide +kernel
theorem dL_law_1512 : decode cL_law 1512 = .ok (.iadd, 1) := by decide +kernel
theorem dL_law_1513 : decode cL_law 1513 = .ok (.iaload, 1) := by decide +kernel
theorem dL_law_1514 : decode cL_law 1514 = .ok (.aload_n 0, 1) := by decide +kernel
theorem dL_law_1515 : decode cL_law 1515 = .ok (.iload_n 3, 1) := by decide +kernel
theorem dL_law_1516 : decode cL_law 1516 = .ok (.iconst 2, 1) := by decide +kernel
theorem dL_law_1517 : decode cL_law 1517 = .ok (.iadd, 1) := by decide +kernel
theorem dL_law_1518 : decode cL_law 1518 = .ok (.iaload, 1) := by decide +kernel
theorem dL_law_1519 : decode cL_law 1519 = .ok (.aload_n 0, 1) := by decide +kernel
theorem dL_law_1520 : decode cL_law 1520 = .ok (.iload_n 3, 1) := by decide +kernel
theorem dL_law_1521 : decode cL_law 1521 = .ok (.iconst 3, 1) := by decide +kernel
theorem dL_law_1522 : decode cL_law 1522 = .ok (.iadd, 1) := by decide +kernel
theorem dL_law_1523 : decode cL_law 1523 = .ok (.iaload, 1) := by decide +kernel
theorem dL_law_1524 : decode cL_law 1524 = .ok (.ifCond .eq 7, 3) := by decide +kernel
theorem dL_law_1527 : decode cL_law 1527 = .ok (.iconst 1, 1) := by decide +kernel
theorem dL_law_1528 : decode cL_law 1528 = .ok (.goto 4, 3) := by decide +kernel
theorem dL_law_1531 : decode cL_law 1531 = .ok (.iconst 0, 1) := by decide +kernel
theorem dL_law_1532 : decode cL_law 1532 = .ok (.invokevirtual 135, 3) := by decide +kernel
theorem dL_law_1535 : decode cL_law 1535 = .ok (.aload_n 2, 1) := by decide +kernel
theorem dL_law_1536 : decode cL_law 1536 = .ok (.aload_n 0, 1) := by decide +kernel
theorem dL_law_1537 : decode cL_law 1537 = .ok (.iload_n 3, 1) := by decide +kernel
theorem dL_law_1538 : decode cL_law 1538 = .ok (.iconst 1, 1) := by decide +kernel
theorem dL_law_1539 : decode cL_law 1539 = .ok (.iadd, 1) := by decide +kernel
theorem dL_law_1540 : decode cL_law 1540 = .ok (.iaload, 1) := by decide +kernel
theorem dL_law_1541 : decode cL_law 1541 = .ok (.aload_n 0, 1) := by decide +kernel
theorem dL_law_1542 : decode cL_law 1542 = .ok (.iload_n 3, 1) := by decide +kernel
theorem dL_law_1543 : decode cL_law 1543 = .ok (.iconst 2, 1) := by decide +kernel
theorem dL_law_1544 : decode cL_law 1544 = .ok (.iadd, 1) := by decide +kernel
theorem dL_law_1545 : decode cL_law 1545 = .ok (.iaload, 1) := by decide +kernel
theorem dL_law_1546 : decode cL_law 1546 = .ok (.aload_n 0, 1) := by decide +kernel
theorem dL_law_1547 : decode cL_law 1547 = .ok (.iload_n 3, 1) := by decide +kernel
theorem dL_law_1548 : decode cL_law 1548 = .ok (.iconst 3, 1) := by decide +kernel
theorem dL_law_1549 : decode cL_law 1549 = .ok (.iadd, 1) := by decide +kernel
theorem dL_law_1550 : decode cL_law 1550 = .ok (.iaload, 1) := by decide +kernel
theorem dL_law_1551 : decode cL_law 1551 = .ok (.ifCond .eq 7, 3) := by decide +kernel
theorem dL_law_1554 : decode cL_law 1554 = .ok (.iconst 1, 1) := by decide +kernel
theorem dL_law_1555 : decode cL_law 1555 = .ok (.goto 4, 3) := by decide +kernel
theorem dL_law_1558 : decode cL_law 1558 = .ok (.iconst 0, 1) := by decide +kernel
theorem dL_law_1559 : decode cL_law 1559 = .ok (.invokevirtual 138, 3) := by decide +kernel
theorem dL_law_1562 : decode cL_law 1562 = .ok (.if_icmp .eq 230, 3) := by decide +kernel
theorem dL_law_1565 : decode cL_law 1565 = .ok (.iconst 0, 1) := by decide +kernel
theorem dL_law_1566 : decode cL_law 1566 = .ok (.ireturn, 1) := by decide +kernel
theorem dL_law_1567 : decode cL_law 1567 = .ok (.aload_n 1, 1) := by decide +kernel
theorem dL_law_1568 : decode cL_law 1568 = .ok (.aload_n 0, 1) := by decide +kernel
theorem dL_law_1569 : decode cL_law 1569 = .ok (.iload_n 3, 1) := by decide +kernel
theorem dL_law_1570 : decode cL_law 1570 = .ok (.iconst 1, 1) := by decide +kernel
theorem dL_law_1571 : decode cL_law 1571 = .ok (.iadd, 1) := by decide +kernel
theorem dL_law_1572 : decode cL_law 1572 = .ok (.iaload, 1) := by decide +kernel
theorem dL_law_1573 : decode cL_law 1573 = .ok (.aload_n 0, 1) := by decide +kernel
theorem dL_law_1574 : decode cL_law 1574 = .ok (.iload_n 3, 1) := by decide +kernel
theorem dL_law_1575 : decode cL_law 1575 = .ok (.iconst 2, 1) := by decide +kernel
theorem dL_law_1576 : decode cL_law 1576 = .ok (.iadd, 1) := by decide +kernel
theorem dL_law_1577 : decode cL_law 1577 = .ok (.iaload, 1) := by decide +kernel
theorem dL_law_1578 : decode cL_law 1578 = .ok (.aload_n 0, 1) := by decide +kernel
theorem dL_law_1579 : decode cL_law 1579 = .ok (.iload_n 3, 1) := by decide +kernel
theorem dL_law_1580 : decode cL_law 1580 = .ok (.iconst 3, 1) := by decide +kernel
theorem dL_law_1581 : decode cL_law 1581 = .ok (.iadd, 1) := by decide +kernel
theorem dL_law_1582 : decode cL_law 1582 = .ok (.iaload, 1) := by decide +kernel
theorem dL_law_1583 : decode cL_law 1583 = .ok (.aload_n 0, 1) := by decide +kernel
theorem dL_law_1584 : decode cL_law 1584 = .ok (.iload_n 3, 1) := by decide +kernel
theorem dL_law_1585 : decode cL_law 1585 = .ok (.iconst 4, 1) := by decide +kernel
theorem dL_law_1586 : decode cL_law 1586 = .ok (.iadd, 1) := by decide +kernel
theorem dL_law_1587 : decode cL_law 1587 = .ok (.iaload, 1) := by decide +kernel
theorem dL_law_1588 : decode cL_law 1588 = .ok (.ifCond .eq 7, 3) := by decide +kernel
theorem dL_law_1591 : decode cL_law 1591 = .ok (.iconst 1, 1) := by decide +kernel
theorem dL_law_1592 : decode cL_law 1592 = .ok (.goto 4, 3) := by decide +kernel
theorem dL_law_1595 : decode cL_law 1595 = .ok (.iconst 0, 1) := by decide +kernel
theorem dL_law_1596 : decode cL_law 1596 = .ok (.invokevirtual 139, 3) := by decide +kernel
theorem dL_law_1599 : decode cL_law 1599 = .ok (.aload_n 2, 1) := by decide +kernel
theorem dL_law_1600 : decode cL_law 1600 = .ok (.aload_n 0, 1) := by decide +kernel
theorem dL_law_1601 : decode cL_law 1601 = .ok (.iload_n 3, 1) := by decide +kernel
theorem dL_law_1602 : decode cL_law 1602 = .ok (.iconst 1, 1) := by decide +kernel
theorem dL_law_1603 : decode cL_law 1603 = .ok (.iadd, 1) := by decide +kernel
theorem dL_law_1604 : decode cL_law 1604 = .ok (.iaload, 1) := by decide +kernel
theorem dL_law_1605 : decode cL_law 1605 = .ok (.aload_n 0, 1) := by decide +kernel
theorem dL_law_1606 : decode cL_law 1606 = .ok (.iload_n 3, 1) := by decide +kernel
theorem dL_law_1607 : decode cL_law 1607 = .ok (.iconst 2, 1) := by decide +kernel
theorem dL_law_1608 : decode cL_law 1608 = .ok (.iadd, 1) := by decide +kernel
theorem dL_law_1609 : decode cL_law 1609 = .ok (.iaload, 1) := by decide +kernel
theorem dL_law_1610 : decode cL_law 1610 = .ok (.aload_n 0, 1) := by decide +kernel
theorem dL_law_1611 : decode cL_law 1611 = .ok (.iload_n 3, 1) := by decide +kernel
theorem dL_law_1612 : decode cL_law 1612 = .ok (.iconst 3, 1) := by decide +kernel
theorem dL_law_1613 : decode cL_law 1613 = .ok (.iadd, 1) := by decide +kernel
theorem dL_law_1614 : decode cL_law 1614 = .ok (.iaload, 1) := by decide +kernel
theorem dL_law_1615 : decode cL_law 1615 = .ok (.aload_n 0, 1) := by decide +kernel
theorem dL_law_1616 : decode cL_law 1616 = .ok (.iload_n 3, 1) := by decide +kernel
theorem dL_law_1617 : decode cL_law 1617 = .ok (.iconst 4, 1) := by decide +kernel
theorem dL_law_1618 : decode cL_law 1618 = .ok (.iadd, 1) := by decide +kernel
theorem dL_law_1619 : decode cL_law 1619 = .ok (.iaload, 1) := by decide +kernel
theorem dL_law_1620 : decode cL_law 1620 = .ok (.ifCond .eq 7, 3) := by decide +kernel
theorem dL_law_1623 : decode cL_law 1623 = .ok (.iconst 1, 1) := by decide +kernel
theorem dL_law_1624 : decode cL_law 1624 = .ok (.goto 4, 3) := by decide +kernel
theorem dL_law_1627 : decode cL_law 1627 = .ok (.iconst 0, 1) := by decide +kernel
theorem dL_law_1628 : decode cL_law 1628 = .ok (.invokevirtual 142, 3) := by decide +kernel
theorem dL_law_1631 : decode cL_law 1631 = .ok (.lcmp, 1) := by decide +kernel
theorem dL_law_1632 : decode cL_law 1632 = .ok (.ifCond .eq 160, 3) := by decide +kernel
theorem dL_law_1635 : decode cL_law 1635 = .ok (.iconst 0, 1) := by decide +kernel
theorem dL_law_1636 : decode cL_law 1636 = .ok (.ireturn, 1) := by decide +kernel
theorem dL_law_1637 : decode cL_law 1637 = .ok (.aload_n 1, 1) := by decide +kernel
theorem dL_law_1638 : decode cL_law 1638 = .ok (.aload_n 0, 1) := by decide +kernel
theorem dL_law_1639 : decode cL_law 1639 = .ok (.iload_n 3, 1) := by decide +kernel
theorem dL_law_1640 : decode cL_law 1640 = .ok (.iconst 1, 1) := by decide +kernel
theorem dL_law_1641 : decode cL_law 1641 = .ok (.iadd, 1) := by decide +kernel
theorem dL_law_1642 : decode cL_law 1642 = .ok (.iaload, 1) := by decide +kernel
theorem dL_law_1643 : decode cL_law 1643 = .ok (.aload_n 0, 1) := by decide +kernel
theorem dL_law_1644 : decode cL_law 1644 = .ok (.iload_n 3, 1) := by decide +kernel
theorem dL_law_1645 : decode cL_law 1645 = .ok (.iconst 2, 1) := by decide +kernel
theorem dL_law_1646 : decode cL_law 1646 = .ok (.iadd, 1) := by decide +kernel
theorem dL_law_1647 : decode cL_law 1647 = .ok (.iaload, 1) := by decide +kernel
theorem dL_law_1648 : decode cL_law 1648 = .ok (.aload_n 0, 1) := by decide +kernel
theorem dL_law_1649 : decode cL_law 1649 = .ok (.iload_n 3, 1) := by decide +kernel
theorem dL_law_1650 : decode cL_law 1650 = .ok (.iconst 3, 1) := by decide +kernel
theorem dL_law_1651 : decode cL_law 1651 = .ok (.iadd, 1) := by decide +kernel
theorem dL_law_1652 : decode cL_law 1652 = .ok (.iaload, 1) := by decide +kernel
theorem dL_law_1653 : decode cL_law 1653 = .ok (.invokevirtual 143, 3) := by decide +kernel
theorem dL_law_1656 : decode cL_law 1656 = .ok (.aload_n 2, 1) := by decide +kernel
theorem dL_law_1657 : decode cL_law 1657 = .ok (.aload_n 0, 1) := by decide +kernel
theorem dL_law_1658 : decode cL_law 1658 = .ok (.iload_n 3, 1) := by decide +kernel
theorem dL_law_1659 : decode cL_law 1659 = .ok (.iconst 1, 1) := by decide +kernel
theorem dL_law_1660 : decode cL_law 1660 = .ok (.iadd, 1) := by decide +kernel
theorem dL_law_1661 : decode cL_law 1661 = .ok (.iaload, 1) := by decide +kernel
theorem dL_law_1662 : decode cL_law 1662 = .ok (.aload_n 0, 1) := by decide +kernel
theorem dL_law_1663 : decode cL_law 1663 = .ok (.iload_n 3, 1) := by decide +kernel
theorem dL_law_1664 : decode cL_law 1664 = .ok (.iconst 2, 1) := by decide +kernel
theorem dL_law_1665 : decode cL_law 1665 = .ok (.iadd, 1) := by decide +kernel
theorem dL_law_1666 : decode cL_law 1666 = .ok (.iaload, 1) := by decide +kernel
theorem dL_law_1667 : decode cL_law 1667 = .ok (.aload_n 0, 1) := by decide +kernel
theorem dL_law_1668 : decode cL_law 1668 = .ok (.iload_n 3, 1) := by decide +kernel
theorem dL_law_1669 : decode cL_law 1669 = .ok (.iconst 3, 1) := by decide +kernel
theorem dL_law_1670 : decode cL_law 1670 = .ok (.iadd, 1) := by decide +kernel
theorem dL_law_1671 : decode cL_law 1671 = .ok (.iaload, 1) := by decide +kernel
theorem dL_law_1672 : decode cL_law 1672 = .ok (.invokevirtual 146, 3) := by decide +kernel
theorem dL_law_1675 : decode cL_law 1675 = .ok (.if_icmp .eq 117, 3) := by decide +kernel
theorem dL_law_1678 : decode cL_law 1678 = .ok (.iconst 0, 1) := by decide +kernel
theorem dL_law_1679 : decode cL_law 1679 = .ok (.ireturn, 1) := by decide +kernel
theorem dL_law_1680 : decode cL_law 1680 = .ok (.aload_n 1, 1) := by decide +kernel
theorem dL_law_1681 : decode cL_law 1681 = .ok (.aload_n 0, 1) := by decide +kernel
theorem dL_law_1682 : decode cL_law 1682 = .ok (.iload_n 3, 1) := by decide +kernel
theorem dL_law_1683 : decode cL_law 1683 = .ok (.iconst 1, 1) := by decide +kernel
theorem dL_law_1684 : decode cL_law 1684 = .ok (.iadd, 1) := by decide +kernel
theorem dL_law_1685 : decode cL_law 1685 = .ok (.iaload, 1) := by decide +kernel
theorem dL_law_1686 : decode cL_law 1686 = .ok (.aload_n 0, 1) := by decide +kernel
theorem dL_law_1687 : decode cL_law 1687 = .ok (.iload_n 3, 1) := by decide +kernel
theorem dL_law_1688 : decode cL_law 1688 = .ok (.iconst 2, 1) := by decide +kernel
theorem dL_law_1689 : decode cL_law 1689 = .ok (.iadd, 1) := by decide +kernel
theorem dL_law_1690 : decode cL_law 1690 = .ok (.iaload, 1) := by decide +kernel
theorem dL_law_1691 : decode cL_law 1691 = .ok (.aload_n 0, 1) := by decide +kernel
theorem dL_law_1692 : decode cL_law 1692 = .ok (.iload_n 3, 1) := by decide +kernel
theorem dL_law_1693 : decode cL_law 1693 = .ok (.iconst 3, 1) := by decide +kernel
theorem dL_law_1694 : decode cL_law 1694 = .ok (.iadd, 1) := by decide +kernel
theorem dL_law_1695 : decode cL_law 1695 = .ok (.iaload, 1) := by decide +kernel
theorem dL_law_1696 : decode cL_law 1696 = .ok (.invokevirtual 147, 3) := by decide +kernel
theorem dL_law_1699 : decode cL_law 1699 = .ok (.aload_n 2, 1) := by decide +kernel
theorem dL_law_1700 : decode cL_law 1700 = .ok (.aload_n 0, 1) := by decide +kernel
theorem dL_law_1701 : decode cL_law 1701 = .ok (.iload_n 3, 1) := by decide +kernel
theorem dL_law_1702 : decode cL_law 1702 = .ok (.iconst 1, 1) := by decide +kernel
theorem dL_law_1703 : decode cL_law 1703 = .ok (.iadd, 1) := by decide +kernel
theorem dL_law_1704 : decode cL_law 1704 = .ok (.iaload, 1) := by decide +kernel
theorem dL_law_1705 : decode cL_law 1705 = .ok (.aload_n 0, 1) := by decide +kernel
theorem dL_law_1706 : decode cL_law 1706 = .ok (.iload_n 3, 1) := by decide +kernel
theorem dL_law_1707 : decode cL_law 1707 = .ok (.iconst 2, 1) := by decide +kernel
theorem dL_law_1708 : decode cL_law 1708 = .ok (.iadd, 1) := by decide +kernel
theorem dL_law_1709 : decode cL_law 1709 = .ok (.iaload, 1) := by decide +kernel
theorem dL_law_1710 : decode cL_law 1710 = .ok (.aload_n 0, 1) := by decide +kernel
theorem dL_law_1711 : decode cL_law 1711 = .ok (.iload_n 3, 1) := by decide +kernel
theorem dL_law_1712 : decode cL_law 1712 = .ok (.iconst 3, 1) := by decide +kernel
theorem dL_law_1713 : decode cL_law 1713 = .ok (.iadd, 1) := by decide +kernel
theorem dL_law_1714 : decode cL_law 1714 = .ok (.iaload, 1) := by decide +kernel
theorem dL_law_1715 : decode cL_law 1715 = .ok (.invokevirtual 150, 3) := by decide +kernel
theorem dL_law_1718 : decode cL_law 1718 = .ok (.if_icmp .eq 74, 3) := by decide +kernel
theorem dL_law_1721 : decode cL_law 1721 = .ok (.iconst 0, 1) := by decide +kernel
theorem dL_law_1722 : decode cL_law 1722 = .ok (.ireturn, 1) := by decide +kernel
theorem dL_law_1723 : decode cL_law 1723 = .ok (.aload_n 1, 1) := by decide +kernel
theorem dL_law_1724 : decode cL_law 1724 = .ok (.aload_n 0, 1) := by decide +kernel
theorem dL_law_1725 : decode cL_law 1725 = .ok (.iload_n 3, 1) := by decide +kernel
theorem dL_law_1726 : decode cL_law 1726 = .ok (.iconst 1, 1) := by decide +kernel
theorem dL_law_1727 : decode cL_law 1727 = .ok (.iadd, 1) := by decide +kernel
theorem dL_law_1728 : decode cL_law 1728 = .ok (.iaload, 1) := by decide +kernel
theorem dL_law_1729 : decode cL_law 1729 = .ok (.invokevirtual 151, 3) := by decide +kernel
theorem dL_law_1732 : decode cL_law 1732 = .ok (.aload_n 2, 1) := by decide +kernel
theorem dL_law_1733 : decode cL_law 1733 = .ok (.aload_n 0, 1) := by decide +kernel
theorem dL_law_1734 : decode cL_law 1734 = .ok (.iload_n 3, 1) := by decide +kernel
theorem dL_law_1735 : decode cL_law 1735 = .ok (.iconst 1, 1) := by decide +kernel
theorem dL_law_1736 : decode cL_law 1736 = .ok (.iadd, 1) := by decide +kernel
theorem dL_law_1737 : decode cL_law 1737 = .ok (.iaload, 1) := by decide +kernel
theorem dL_law_1738 : decode cL_law 1738 = .ok (.invokevirtual 154, 3) := by decide +kernel
theorem dL_law_1741 : decode cL_law 1741 = .ok (.if_icmp .eq 51, 3) := by decide +kernel
theorem dL_law_1744 : decode cL_law 1744 = .ok (.iconst 0, 1) := by decide +kernel
theorem dL_law_1745 : decode cL_law 1745 = .ok (.ireturn, 1) := by decide +kernel
theorem dL_law_1746 : decode cL_law 1746 = .ok (.aload_n 1, 1) := by decide +kernel
theorem dL_law_1747 : decode cL_law 1747 = .ok (.aload_n 0, 1) := by decide +kernel
theorem dL_law_1748 : decode cL_law 1748 = .ok (.iload_n 3, 1) := by decide +kernel
theorem dL_law_1749 : decode cL_law 1749 = .ok (.iconst 1, 1) := by decide +kernel
theorem dL_law_1750 : decode cL_law 1750 = .ok (.iadd, 1) := by decide +kernel
theorem dL_law_1751 : decode cL_law 1751 = .ok (.iaload, 1) := by decide +kernel
theorem dL_law_1752 : decode cL_law 1752 = .ok (.invokevirtual 155, 3) := by decide +kernel
theorem dL_law_1755 : decode cL_law 1755 = .ok (.aload_n 2, 1) := by decide +kernel
theorem dL_law_1756 : decode cL_law 1756 = .ok (.aload_n 0, 1) := by decide +kernel
theorem dL_law_1757 : decode cL_law 1757 = .ok (.iload_n 3, 1) := by decide +kernel
theorem dL_law_1758 : decode cL_law 1758 = .ok (.iconst 1, 1) := by decide +kernel
theorem dL_law_1759 : decode cL_law 1759 = .ok (.iadd, 1) := by decide +kernel
theorem dL_law_1760 : decode cL_law 1760 = .ok (.iaload, 1) := by decide +kernel
theorem dL_law_1761 : decode cL_law 1761 = .ok (.invokevirtual 159, 3) := by decide +kernel
theorem dL_law_1764 : decode cL_law 1764 = .ok (.if_icmp .eq 28, 3) := by decide +kernel
theorem dL_law_1767 : decode cL_law 1767 = .ok (.iconst 0, 1) := by decide +kernel
theorem dL_law_1768 : decode cL_law 1768 = .ok (.ireturn, 1) := by decide +kernel
theorem dL_law_1769 : decode cL_law 1769 = .ok (.aload_n 1, 1) := by decide +kernel
theorem dL_law_1770 : decode cL_law 1770 = .ok (.aload_n 0, 1) := by decide +kernel
theorem dL_law_1771 : decode cL_law 1771 = .ok (.iload_n 3, 1) := by decide +kernel
theorem dL_law_1772 : decode cL_law 1772 = .ok (.iconst 1, 1) := by decide +kernel
theorem dL_law_1773 : decode cL_law 1773 = .ok (.iadd, 1) := by decide +kernel
theorem dL_law_1774 : decode cL_law 1774 = .ok (.iaload, 1) := by decide +kernel
theorem dL_law_1775 : decode cL_law 1775 = .ok (.invokevirtual 160, 3) := by decide +kernel
theorem dL_law_1778 : decode cL_law 1778 = .ok (.aload_n 2, 1) := by decide +kernel
theorem dL_law_1779 : decode cL_law 1779 = .ok (.aload_n 0, 1) := by decide +kernel
theorem dL_law_1780 : decode cL_law 1780 = .ok (.iload_n 3, 1) := by decide +kernel
theorem dL_law_1781 : decode cL_law 1781 = .ok (.iconst 1, 1) := by decide +kernel
theorem dL_law_1782 : decode cL_law 1782 = .ok (.iadd, 1) := by decide +kernel
theorem dL_law_1783 : decode cL_law 1783 = .ok (.iaload, 1) := by decide +kernel
theorem dL_law_1784 : decode cL_law 1784 = .ok (.invokevirtual 163, 3) := by decide +kernel
theorem dL_law_1787 : decode cL_law 1787 = .ok (.if_icmp .eq 5, 3) := by decide +kernel
theorem dL_law_1790 : decode cL_law 1790 = .ok (.iconst 0, 1) := by decide +kernel
theorem dL_law_1791 : decode cL_law 1791 = .ok (.ireturn, 1) := by decide +kernel
theorem dL_law_1792 : decode cL_law 1792 = .ok (.iinc 3 6, 3) := by decide +kernel
theorem dL_law_1795 : decode cL_law 1795 = .ok (.goto (-1777), 3) := by decide +kernel
theorem dL_law_1798 : decode cL_law 1798 = .ok (.iconst 1, 1) := by decide +kernel
theorem dL_law_1799 : decode cL_law 1799 = .ok (.ireturn, 1) := by decide +kernel
