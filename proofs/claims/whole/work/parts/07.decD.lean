theorem dX10_leastBy_13 : decode cX10_leastBy 13 = .ok (.if_icmp .ge 35, 3) := by decide +kernel
theorem dX10_leastBy_16 : decode cX10_leastBy 16 = .ok (.iload_n 1, 1) := by decide +kernel
theorem dX10_leastBy_17 : decode cX10_leastBy 17 = .ok (.iload 4, 2) := by decide +kernel
theorem dX10_leastBy_19 : decode cX10_leastBy 19 = .ok (.invokestatic 148, 3) := by decide +kernel
theorem dX10_leastBy_22 : decode cX10_leastBy 22 = .ok (.ifCond .eq 20, 3) := by decide +kernel
theorem dX10_leastBy_25 : decode cX10_leastBy 25 = .ok (.iload_n 3, 1) := by decide +kernel
theorem dX10_leastBy_26 : decode cX10_leastBy 26 = .ok (.aload_n 0, 1) := by decide +kernel
theorem dX10_leastBy_27 : decode cX10_leastBy 27 = .ok (.getfield 71, 3) := by decide +kernel
theorem dX10_leastBy_30 : decode cX10_leastBy 30 = .ok (.bipush 16, 2) := by decide +kernel
theorem dX10_leastBy_32 : decode cX10_leastBy 32 = .ok (.iload 4, 2) := by decide +kernel
theorem dX10_leastBy_34 : decode cX10_leastBy 34 = .ok (.imul, 1) := by decide +kernel
theorem dX10_leastBy_35 : decode cX10_leastBy 35 = .ok (.iload_n 2, 1) := by decide +kernel
theorem dX10_leastBy_36 : decode cX10_leastBy 36 = .ok (.iadd, 1) := by decide +kernel
theorem dX10_leastBy_37 : decode cX10_leastBy 37 = .ok (.iaload, 1) := by decide +kernel
theorem dX10_leastBy_38 : decode cX10_leastBy 38 = .ok (.invokestatic 289, 3) := by decide +kernel
theorem dX10_leastBy_41 : decode cX10_leastBy 41 = .ok (.istore_n 3, 1) := by decide +kernel
theorem dX10_leastBy_42 : decode cX10_leastBy 42 = .ok (.iinc 4 1, 3) := by decide +kernel
theorem dX10_leastBy_45 : decode cX10_leastBy 45 = .ok (.goto (-38), 3) := by decide +kernel
theorem dX10_leastBy_48 : decode cX10_leastBy 48 = .ok (.iload_n 3, 1) := by decide +kernel
theorem dX10_leastBy_49 : decode cX10_leastBy 49 = .ok (.ireturn, 1) := by decide +kernel
theorem dX10_swear_0 : decode cX10_swear 0 = .ok (.aload_n 0, 1) := by decide +kernel
theorem dX10_swear_1 : decode cX10_swear 1 = .ok (.iload_n 1, 1) := by decide +kernel
theorem dX10_swear_2 : decode cX10_swear 2 = .ok (.invokevirtual 292, 3) := by decide +kernel
theorem dX10_swear_5 : decode cX10_swear 5 = .ok (.ifCond .eq 11, 3) := by decide +kernel
theorem dX10_swear_8 : decode cX10_swear 8 = .ok (.aload_n 0, 1) := by decide +kernel
theorem dX10_swear_9 : decode cX10_swear 9 = .ok (.iload_n 2, 1) := by decide +kernel
theorem dX10_swear_10 : decode cX10_swear 10 = .ok (.invokevirtual 141, 3) := by decide +kernel
theorem dX10_swear_13 : decode cX10_swear 13 = .ok (.ifCond .ne 5, 3) := by decide +kernel
theorem dX10_swear_16 : decode cX10_swear 16 = .ok (.iconst (-1), 1) := by decide +kernel
theorem dX10_swear_17 : decode cX10_swear 17 = .ok (.ireturn, 1) := by decide +kernel
theorem dX10_swear_18 : decode cX10_swear 18 = .ok (.aload_n 0, 1) := by decide +kernel
theorem dX10_swear_19 : decode cX10_swear 19 = .ok (.getfield 80, 3) := by decide +kernel
theorem dX10_swear_22 : decode cX10_swear 22 = .ok (.iload_n 1, 1) := by decide +kernel
theorem dX10_swear_23 : decode cX10_swear 23 = .ok (.iaload, 1) := by decide +kernel
theorem dX10_swear_24 : decode cX10_swear 24 = .ok (.iload_n 2, 1) := by decide +kernel
theorem dX10_swear_25 : decode cX10_swear 25 = .ok (.invokestatic 148, 3) := by decide +kernel
theorem dX10_swear_28 : decode cX10_swear 28 = .ok (.ifCond .eq 6, 3) := by decide +kernel
theorem dX10_swear_31 : decode cX10_swear 31 = .ok (.bipush (-2), 2) := by decide +kernel
theorem dX10_swear_33 : decode cX10_swear 33 = .ok (.ireturn, 1) := by decide +kernel
theorem dX10_swear_34 : decode cX10_swear 34 = .ok (.aload_n 0, 1) := by decide +kernel
theorem dX10_swear_35 : decode cX10_swear 35 = .ok (.iconst 0, 1) := by decide +kernel
theorem dX10_swear_36 : decode cX10_swear 36 = .ok (.invokevirtual 295, 3) := by decide +kernel
theorem dX10_swear_39 : decode cX10_swear 39 = .ok (.aload_n 0, 1) := by decide +kernel
theorem dX10_swear_40 : decode cX10_swear 40 = .ok (.aload_n 0, 1) := by decide +kernel
theorem dX10_swear_41 : decode cX10_swear 41 = .ok (.getfield 80, 3) := by decide +kernel
theorem dX10_swear_44 : decode cX10_swear 44 = .ok (.iload_n 1, 1) := by decide +kernel
theorem dX10_swear_45 : decode cX10_swear 45 = .ok (.iaload, 1) := by decide +kernel
theorem dX10_swear_46 : decode cX10_swear 46 = .ok (.iload_n 2, 1) := by decide +kernel
theorem dX10_swear_47 : decode cX10_swear 47 = .ok (.invokevirtual 298, 3) := by decide +kernel
theorem dX10_swear_50 : decode cX10_swear 50 = .ok (.istore_n 3, 1) := by decide +kernel
theorem dX10_swear_51 : decode cX10_swear 51 = .ok (.iload_n 3, 1) := by decide +kernel
theorem dX10_swear_52 : decode cX10_swear 52 = .ok (.ldc_w 273, 3) := by decide +kernel
theorem dX10_swear_55 : decode cX10_swear 55 = .ok (.if_icmp .ne 6, 3) := by decide +kernel
theorem dX10_swear_58 : decode cX10_swear 58 = .ok (.bipush (-3), 2) := by decide +kernel
theorem dX10_swear_60 : decode cX10_swear 60 = .ok (.ireturn, 1) := by decide +kernel
theorem dX10_swear_61 : decode cX10_swear 61 = .ok (.aload_n 0, 1) := by decide +kernel
theorem dX10_swear_62 : decode cX10_swear 62 = .ok (.getfield 80, 3) := by decide +kernel
theorem dX10_swear_65 : decode cX10_swear 65 = .ok (.iload_n 1, 1) := by decide +kernel
theorem dX10_swear_66 : decode cX10_swear 66 = .ok (.aload_n 0, 1) := by decide +kernel
theorem dX10_swear_67 : decode cX10_swear 67 = .ok (.getfield 80, 3) := by decide +kernel
theorem dX10_swear_70 : decode cX10_swear 70 = .ok (.iload_n 1, 1) := by decide +kernel
theorem dX10_swear_71 : decode cX10_swear 71 = .ok (.iaload, 1) := by decide +kernel
theorem dX10_swear_72 : decode cX10_swear 72 = .ok (.iconst 1, 1) := by decide +kernel
theorem dX10_swear_73 : decode cX10_swear 73 = .ok (.iload_n 2, 1) := by decide +kernel
theorem dX10_swear_74 : decode cX10_swear 74 = .ok (.ishl, 1) := by decide +kernel
theorem dX10_swear_75 : decode cX10_swear 75 = .ok (.ior, 1) := by decide +kernel
theorem dX10_swear_76 : decode cX10_swear 76 = .ok (.iastore, 1) := by decide +kernel
theorem dX10_swear_77 : decode cX10_swear 77 = .ok (.iload_n 3, 1) := by decide +kernel
theorem dX10_swear_78 : decode cX10_swear 78 = .ok (.ireturn, 1) := by decide +kernel
theorem dX10_reach_0 : decode cX10_reach 0 = .ok (.iconst 1, 1) := by decide +kernel
theorem dX10_reach_1 : decode cX10_reach 1 = .ok (.iload_n 1, 1) := by decide +kernel
theorem dX10_reach_2 : decode cX10_reach 2 = .ok (.ishl, 1) := by decide +kernel
theorem dX10_reach_3 : decode cX10_reach 3 = .ok (.istore_n 3, 1) := by decide +kernel
theorem dX10_reach_4 : decode cX10_reach 4 = .ok (.iconst 1, 1) := by decide +kernel
theorem dX10_reach_5 : decode cX10_reach 5 = .ok (.istore 4, 2) := by decide +kernel
theorem dX10_reach_7 : decode cX10_reach 7 = .ok (.iload 4, 2) := by decide +kernel
theorem dX10_reach_9 : decode cX10_reach 9 = .ok (.ifCond .eq 96, 3) := by decide +kernel
theorem dX10_reach_12 : decode cX10_reach 12 = .ok (.iconst 0, 1) := by decide +kernel
theorem dX10_reach_13 : decode cX10_reach 13 = .ok (.istore 4, 2) := by decide +kernel
theorem dX10_reach_15 : decode cX10_reach 15 = .ok (.iconst 0, 1) := by decide +kernel
theorem dX10_reach_16 : decode cX10_reach 16 = .ok (.istore 5, 2) := by decide +kernel
theorem dX10_reach_18 : decode cX10_reach 18 = .ok (.iload 5, 2) := by decide +kernel
theorem dX10_reach_20 : decode cX10_reach 20 = .ok (.aload_n 0, 1) := by decide +kernel
theorem dX10_reach_21 : decode cX10_reach 21 = .ok (.getfield 138, 3) := by decide +kernel
theorem dX10_reach_24 : decode cX10_reach 24 = .ok (.if_icmp .ge 78, 3) := by decide +kernel
theorem dX10_reach_27 : decode cX10_reach 27 = .ok (.iconst 0, 1) := by decide +kernel
theorem dX10_reach_28 : decode cX10_reach 28 = .ok (.istore 6, 2) := by decide +kernel
theorem dX10_reach_30 : decode cX10_reach 30 = .ok (.iload 6, 2) := by decide +kernel
theorem dX10_reach_32 : decode cX10_reach 32 = .ok (.aload_n 0, 1) := by decide +kernel
theorem dX10_reach_33 : decode cX10_reach 33 = .ok (.getfield 138, 3) := by decide +kernel
theorem dX10_reach_36 : decode cX10_reach 36 = .ok (.if_icmp .ge 60, 3) := by decide +kernel
theorem dX10_reach_39 : decode cX10_reach 39 = .ok (.iload_n 3, 1) := by decide +kernel
theorem dX10_reach_40 : decode cX10_reach 40 = .ok (.iload 5, 2) := by decide +kernel
theorem dX10_reach_42 : decode cX10_reach 42 = .ok (.invokestatic 148, 3) := by decide +kernel
theorem dX10_reach_45 : decode cX10_reach 45 = .ok (.ifCond .ne 45, 3) := by decide +kernel
theorem dX10_reach_48 : decode cX10_reach 48 = .ok (.iload_n 2, 1) := by decide +kernel
theorem dX10_reach_49 : decode cX10_reach 49 = .ok (.iload 5, 2) := by decide +kernel
theorem dX10_reach_51 : decode cX10_reach 51 = .ok (.invokestatic 148, 3) := by decide +kernel
theorem dX10_reach_54 : decode cX10_reach 54 = .ok (.ifCond .eq 36, 3) := by decide +kernel
theorem dX10_reach_57 : decode cX10_reach 57 = .ok (.iload_n 3, 1) := by decide +kernel
theorem dX10_reach_58 : decode cX10_reach 58 = .ok (.iload 6, 2) := by decide +kernel
theorem dX10_reach_60 : decode cX10_reach 60 = .ok (.invokestatic 148, 3) := by decide +kernel
theorem dX10_reach_63 : decode cX10_reach 63 = .ok (.ifCond .eq 27, 3) := by decide +kernel
theorem dX10_reach_66 : decode cX10_reach 66 = .ok (.aload_n 0, 1) := by decide +kernel
theorem dX10_reach_67 : decode cX10_reach 67 = .ok (.iload 6, 2) := by decide +kernel
theorem dX10_reach_69 : decode cX10_reach 69 = .ok (.iload 5, 2) := by decide +kernel
theorem dX10_reach_71 : decode cX10_reach 71 = .ok (.invokevirtual 301, 3) := by decide +kernel
theorem dX10_reach_74 : decode cX10_reach 74 = .ok (.ifCond .ne 6, 3) := by decide +kernel
theorem dX10_reach_77 : decode cX10_reach 77 = .ok (.goto 13, 3) := by decide +kernel
theorem dX10_reach_80 : decode cX10_reach 80 = .ok (.iload_n 3, 1) := by decide +kernel
theorem dX10_reach_81 : decode cX10_reach 81 = .ok (.iconst 1, 1) := by decide +kernel
theorem dX10_reach_82 : decode cX10_reach 82 = .ok (.iload 5, 2) := by decide +kernel
theorem dX10_reach_84 : decode cX10_reach 84 = .ok (.ishl, 1) := by decide +kernel
theorem dX10_reach_85 : decode cX10_reach 85 = .ok (.ior, 1) := by decide +kernel
theorem dX10_reach_86 : decode cX10_reach 86 = .ok (.istore_n 3, 1) := by decide +kernel
theorem dX10_reach_87 : decode cX10_reach 87 = .ok (.iconst 1, 1) := by decide +kernel
theorem dX10_reach_88 : decode cX10_reach 88 = .ok (.istore 4, 2) := by decide +kernel
theorem dX10_reach_90 : decode cX10_reach 90 = .ok (.iinc 6 1, 3) := by decide +kernel
theorem dX10_reach_93 : decode cX10_reach 93 = .ok (.goto (-63), 3) := by decide +kernel
theorem dX10_reach_96 : decode cX10_reach 96 = .ok (.iinc 5 1, 3) := by decide +kernel
theorem dX10_reach_99 : decode cX10_reach 99 = .ok (.goto (-81), 3) := by decide +kernel
theorem dX10_reach_102 : decode cX10_reach 102 = .ok (.goto (-95), 3) := by decide +kernel
theorem dX10_reach_105 : decode cX10_reach 105 = .ok (.iload_n 3, 1) := by decide +kernel
theorem dX10_reach_106 : decode cX10_reach 106 = .ok (.ireturn, 1) := by decide +kernel
theorem dX10_holdsBy_0 : decode cX10_holdsBy 0 = .ok (.aload_n 0, 1) := by decide +kernel
theorem dX10_holdsBy_1 : decode cX10_holdsBy 1 = .ok (.getfield 145, 3) := by decide +kernel
theorem dX10_holdsBy_4 : decode cX10_holdsBy 4 = .ok (.iload_n 1, 1) := by decide +kernel
theorem dX10_holdsBy_5 : decode cX10_holdsBy 5 = .ok (.invokestatic 148, 3) := by decide +kernel
theorem dX10_holdsBy_8 : decode cX10_holdsBy 8 = .ok (.ifCond .eq 23, 3) := by decide +kernel
theorem dX10_holdsBy_11 : decode cX10_holdsBy 11 = .ok (.aload_n 0, 1) := by decide +kernel
theorem dX10_holdsBy_12 : decode cX10_holdsBy 12 = .ok (.iload_n 1, 1) := by decide +kernel
theorem dX10_holdsBy_13 : decode cX10_holdsBy 13 = .ok (.iload_n 2, 1) := by decide +kernel
theorem dX10_holdsBy_14 : decode cX10_holdsBy 14 = .ok (.invokevirtual 304, 3) := by decide +kernel
theorem dX10_holdsBy_17 : decode cX10_holdsBy 17 = .ok (.aload_n 0, 1) := by decide +kernel
theorem dX10_holdsBy_18 : decode cX10_holdsBy 18 = .ok (.invokevirtual 163, 3) := by decide +kernel
theorem dX10_holdsBy_21 : decode cX10_holdsBy 21 = .ok (.invokestatic 148, 3) := by decide +kernel
theorem dX10_holdsBy_24 : decode cX10_holdsBy 24 = .ok (.ifCond .eq 7, 3) := by decide +kernel
theorem dX10_holdsBy_27 : decode cX10_holdsBy 27 = .ok (.iconst 1, 1) := by decide +kernel
theorem dX10_holdsBy_28 : decode cX10_holdsBy 28 = .ok (.goto 4, 3) := by decide +kernel
theorem dX10_holdsBy_31 : decode cX10_holdsBy 31 = .ok (.iconst 0, 1) := by decide +kernel
theorem dX10_holdsBy_32 : decode cX10_holdsBy 32 = .ok (.ireturn, 1) := by decide +kernel
theorem dX10_holdsNow_0 : decode cX10_holdsNow 0 = .ok (.aload_n 0, 1) := by decide +kernel
theorem dX10_holdsNow_1 : decode cX10_holdsNow 1 = .ok (.aload_n 0, 1) := by decide +kernel
theorem dX10_holdsNow_2 : decode cX10_holdsNow 2 = .ok (.getfield 74, 3) := by decide +kernel
theorem dX10_holdsNow_5 : decode cX10_holdsNow 5 = .ok (.iload_n 1, 1) := by decide +kernel
theorem dX10_holdsNow_6 : decode cX10_holdsNow 6 = .ok (.iaload, 1) := by decide +kernel
theorem dX10_holdsNow_7 : decode cX10_holdsNow 7 = .ok (.aload_n 0, 1) := by decide +kernel
theorem dX10_holdsNow_8 : decode cX10_holdsNow 8 = .ok (.getfield 80, 3) := by decide +kernel
theorem dX10_holdsNow_11 : decode cX10_holdsNow 11 = .ok (.iload_n 1, 1) := by decide +kernel
theorem dX10_holdsNow_12 : decode cX10_holdsNow 12 = .ok (.iaload, 1) := by decide +kernel
theorem dX10_holdsNow_13 : decode cX10_holdsNow 13 = .ok (.invokevirtual 307, 3) := by decide +kernel
theorem dX10_holdsNow_16 : decode cX10_holdsNow 16 = .ok (.ireturn, 1) := by decide +kernel
theorem dX10_holds_0 : decode cX10_holds 0 = .ok (.aload_n 0, 1) := by decide +kernel
theorem dX10_holds_1 : decode cX10_holds 1 = .ok (.iload_n 1, 1) := by decide +kernel
theorem dX10_holds_2 : decode cX10_holds 2 = .ok (.invokevirtual 292, 3) := by decide +kernel
theorem dX10_holds_5 : decode cX10_holds 5 = .ok (.ifCond .ne 5, 3) := by decide +kernel
theorem dX10_holds_8 : decode cX10_holds 8 = .ok (.iconst (-1), 1) := by decide +kernel
theorem dX10_holds_9 : decode cX10_holds 9 = .ok (.ireturn, 1) := by decide +kernel
theorem dX10_holds_10 : decode cX10_holds 10 = .ok (.aload_n 0, 1) := by decide +kernel
theorem dX10_holds_11 : decode cX10_holds 11 = .ok (.iconst 0, 1) := by decide +kernel
theorem dX10_holds_12 : decode cX10_holds 12 = .ok (.invokevirtual 295, 3) := by decide +kernel
theorem dX10_holds_15 : decode cX10_holds 15 = .ok (.aload_n 0, 1) := by decide +kernel
theorem dX10_holds_16 : decode cX10_holds 16 = .ok (.iload_n 1, 1) := by decide +kernel
theorem dX10_holds_17 : decode cX10_holds 17 = .ok (.invokevirtual 310, 3) := by decide +kernel
theorem dX10_holds_20 : decode cX10_holds 20 = .ok (.ifCond .eq 7, 3) := by decide +kernel
theorem dX10_holds_23 : decode cX10_holds 23 = .ok (.iconst 1, 1) := by decide +kernel
theorem dX10_holds_24 : decode cX10_holds 24 = .ok (.goto 4, 3) := by decide +kernel
theorem dX10_holds_27 : decode cX10_holds 27 = .ok (.iconst 0, 1) := by decide +kernel
theorem dX10_holds_28 : decode cX10_holds 28 = .ok (.ireturn, 1) := by decide +kernel
theorem dX10_holding_0 : decode cX10_holding 0 = .ok (.aload_n 0, 1) := by decide +kernel
theorem dX10_holding_1 : decode cX10_holding 1 = .ok (.iload_n 1, 1) := by decide +kernel
theorem dX10_holding_2 : decode cX10_holding 2 = .ok (.invokevirtual 295, 3) := by decide +kernel
theorem dX10_holding_5 : decode cX10_holding 5 = .ok (.iconst 0, 1) := by decide +kernel
theorem dX10_holding_6 : decode cX10_holding 6 = .ok (.istore_n 2, 1) := by decide +kernel
theorem dX10_holding_7 : decode cX10_holding 7 = .ok (.iconst 0, 1) := by decide +kernel
theorem dX10_holding_8 : decode cX10_holding 8 = .ok (.istore_n 3, 1) := by decide +kernel
theorem dX10_holding_9 : decode cX10_holding 9 = .ok (.iload_n 3, 1) := by decide +kernel
theorem dX10_holding_10 : decode cX10_holding 10 = .ok (.aload_n 0, 1) := by decide +kernel
theorem dX10_holding_11 : decode cX10_holding 11 = .ok (.getfield 286, 3) := by decide +kernel
theorem dX10_holding_14 : decode cX10_holding 14 = .ok (.if_icmp .ge 27, 3) := by decide +kernel
theorem dX10_holding_17 : decode cX10_holding 17 = .ok (.aload_n 0, 1) := by decide +kernel
theorem dX10_holding_18 : decode cX10_holding 18 = .ok (.iload_n 3, 1) := by decide +kernel
theorem dX10_holding_19 : decode cX10_holding 19 = .ok (.invokevirtual 310, 3) := by decide +kernel
theorem dX10_holding_22 : decode cX10_holding 22 = .ok (.ifCond .eq 11, 3) := by decide +kernel
theorem dX10_holding_25 : decode cX10_holding 25 = .ok (.iload_n 2, 1) := by decide +kernel
theorem dX10_holding_26 : decode cX10_holding 26 = .ok (.iconst 1, 1) := by decide +kernel
theorem dX10_holding_27 : decode cX10_holding 27 = .ok (.iload_n 3, 1) := by decide +kernel
theorem dX10_holding_28 : decode cX10_holding 28 = .ok (.ishl, 1) := by decide +kernel
theorem dX10_holding_29 : decode cX10_holding 29 = .ok (.ior, 1) := by decide +kernel
theorem dX10_holding_30 : decode cX10_holding 30 = .ok (.goto 4, 3) := by decide +kernel
theorem dX10_holding_33 : decode cX10_holding 33 = .ok (.iload_n 2, 1) := by decide +kernel
theorem dX10_holding_34 : decode cX10_holding 34 = .ok (.istore_n 2, 1) := by decide +kernel
theorem dX10_holding_35 : decode cX10_holding 35 = .ok (.iinc 3 1, 3) := by decide +kernel
theorem dX10_holding_38 : decode cX10_holding 38 = .ok (.goto (-29), 3) := by decide +kernel
theorem dX10_holding_41 : decode cX10_holding 41 = .ok (.iload_n 2, 1) := by decide +kernel
theorem dX10_holding_42 : decode cX10_holding 42 = .ok (.ireturn, 1) := by decide +kernel
theorem dX10_passes_0 : decode cX10_passes 0 = .ok (.iconst 0, 1) := by decide +kernel
theorem dX10_passes_1 : decode cX10_passes 1 = .ok (.istore_n 2, 1) := by decide +kernel
theorem dX10_passes_2 : decode cX10_passes 2 = .ok (.iload_n 2, 1) := by decide +kernel
theorem dX10_passes_3 : decode cX10_passes 3 = .ok (.aload_n 0, 1) := by decide +kernel
theorem dX10_passes_4 : decode cX10_passes 4 = .ok (.getfield 138, 3) := by decide +kernel
theorem dX10_passes_7 : decode cX10_passes 7 = .ok (.if_icmp .ge 39, 3) := by decide +kernel
theorem dX10_passes_10 : decode cX10_passes 10 = .ok (.aload_n 0, 1) := by decide +kernel
theorem dX10_passes_11 : decode cX10_passes 11 = .ok (.getfield 145, 3) := by decide +kernel
theorem dX10_passes_14 : decode cX10_passes 14 = .ok (.iload_n 2, 1) := by decide +kernel
theorem dX10_passes_15 : decode cX10_passes 15 = .ok (.invokestatic 148, 3) := by decide +kernel
theorem dX10_passes_18 : decode cX10_passes 18 = .ok (.ifCond .eq 22, 3) := by decide +kernel
theorem dX10_passes_21 : decode cX10_passes 21 = .ok (.aload_n 0, 1) := by decide +kernel
theorem dX10_passes_22 : decode cX10_passes 22 = .ok (.getfield 16, 3) := by decide +kernel
theorem dX10_passes_25 : decode cX10_passes 25 = .ok (.iload_n 2, 1) := by decide +kernel
theorem dX10_passes_26 : decode cX10_passes 26 = .ok (.bipush 99, 2) := by decide +kernel
theorem dX10_passes_28 : decode cX10_passes 28 = .ok (.aload_n 0, 1) := by decide +kernel
theorem dX10_passes_29 : decode cX10_passes 29 = .ok (.getfield 16, 3) := by decide +kernel
theorem dX10_passes_32 : decode cX10_passes 32 = .ok (.iload_n 2, 1) := by decide +kernel
theorem dX10_passes_33 : decode cX10_passes 33 = .ok (.iaload, 1) := by decide +kernel
theorem dX10_passes_34 : decode cX10_passes 34 = .ok (.iconst 1, 1) := by decide +kernel
theorem dX10_passes_35 : decode cX10_passes 35 = .ok (.iadd, 1) := by decide +kernel
theorem dX10_passes_36 : decode cX10_passes 36 = .ok (.invokestatic 289, 3) := by decide +kernel
theorem dX10_passes_39 : decode cX10_passes 39 = .ok (.iastore, 1) := by decide +kernel
theorem dX10_passes_40 : decode cX10_passes 40 = .ok (.iinc 2 1, 3) := by decide +kernel
theorem dX10_passes_43 : decode cX10_passes 43 = .ok (.goto (-41), 3) := by decide +kernel
theorem dX10_passes_46 : decode cX10_passes 46 = .ok (.iconst 0, 1) := by decide +kernel
theorem dX10_passes_47 : decode cX10_passes 47 = .ok (.istore_n 2, 1) := by decide +kernel
theorem dX10_passes_48 : decode cX10_passes 48 = .ok (.iload_n 2, 1) := by decide +kernel
theorem dX10_passes_49 : decode cX10_passes 49 = .ok (.aload_n 0, 1) := by decide +kernel
theorem dX10_passes_50 : decode cX10_passes 50 = .ok (.getfield 138, 3) := by decide +kernel
theorem dX10_passes_53 : decode cX10_passes 53 = .ok (.if_icmp .ge 64, 3) := by decide +kernel
theorem dX10_passes_56 : decode cX10_passes 56 = .ok (.aload_n 0, 1) := by decide +kernel
theorem dX10_passes_57 : decode cX10_passes 57 = .ok (.iload_n 2, 1) := by decide +kernel
theorem dX10_passes_58 : decode cX10_passes 58 = .ok (.invokevirtual 274, 3) := by decide +kernel
theorem dX10_passes_61 : decode cX10_passes 61 = .ok (.aload_n 0, 1) := by decide +kernel
theorem dX10_passes_62 : decode cX10_passes 62 = .ok (.getfield 68, 3) := by decide +kernel
theorem dX10_passes_65 : decode cX10_passes 65 = .ok (.bipush 11, 2) := by decide +kernel
theorem dX10_passes_67 : decode cX10_passes 67 = .ok (.iload_n 1, 1) := by decide +kernel
theorem dX10_passes_68 : decode cX10_passes 68 = .ok (.iastore, 1) := by decide +kernel
theorem dX10_passes_69 : decode cX10_passes 69 = .ok (.aload_n 0, 1) := by decide +kernel
theorem dX10_passes_70 : decode cX10_passes 70 = .ok (.getfield 83, 3) := by decide +kernel
theorem dX10_passes_73 : decode cX10_passes 73 = .ok (.iload_n 2, 1) := by decide +kernel
theorem dX10_passes_74 : decode cX10_passes 74 = .ok (.aload_n 0, 1) := by decide +kernel
theorem dX10_passes_75 : decode cX10_passes 75 = .ok (.iconst 0, 1) := by decide +kernel
theorem dX10_passes_76 : decode cX10_passes 76 = .ok (.bipush 103, 2) := by decide +kernel
theorem dX10_passes_78 : decode cX10_passes 78 = .ok (.bipush 9, 2) := by decide +kernel
theorem dX10_passes_80 : decode cX10_passes 80 = .ok (.invokevirtual 280, 3) := by decide +kernel
theorem dX10_passes_83 : decode cX10_passes 83 = .ok (.aload_n 0, 1) := by decide +kernel
theorem dX10_passes_84 : decode cX10_passes 84 = .ok (.getfield 7, 3) := by decide +kernel
theorem dX10_passes_87 : decode cX10_passes 87 = .ok (.iload_n 2, 1) := by decide +kernel
theorem dX10_passes_88 : decode cX10_passes 88 = .ok (.iaload, 1) := by decide +kernel
theorem dX10_passes_89 : decode cX10_passes 89 = .ok (.iconst 2, 1) := by decide +kernel
theorem dX10_passes_90 : decode cX10_passes 90 = .ok (.if_icmp .ne 18, 3) := by decide +kernel
theorem dX10_passes_93 : decode cX10_passes 93 = .ok (.aload_n 0, 1) := by decide +kernel
theorem dX10_passes_94 : decode cX10_passes 94 = .ok (.getfield 16, 3) := by decide +kernel
theorem dX10_passes_97 : decode cX10_passes 97 = .ok (.iload_n 2, 1) := by decide +kernel
theorem dX10_passes_98 : decode cX10_passes 98 = .ok (.iaload, 1) := by decide +kernel
theorem dX10_passes_99 : decode cX10_passes 99 = .ok (.bipush 20, 2) := by decide +kernel
theorem dX10_passes_101 : decode cX10_passes 101 = .ok (.if_icmp .ge 7, 3) := by decide +kernel
theorem dX10_passes_104 : decode cX10_passes 104 = .ok (.iconst 1, 1) := by decide +kernel
theorem dX10_passes_105 : decode cX10_passes 105 = .ok (.goto 4, 3) := by decide +kernel
theorem dX10_passes_108 : decode cX10_passes 108 = .ok (.iconst 0, 1) := by decide +kernel
theorem dX10_passes_109 : decode cX10_passes 109 = .ok (.iadd, 1) := by decide +kernel
theorem dX10_passes_110 : decode cX10_passes 110 = .ok (.iastore, 1) := by decide +kernel
theorem dX10_passes_111 : decode cX10_passes 111 = .ok (.iinc 2 1, 3) := by decide +kernel
theorem dX10_passes_114 : decode cX10_passes 114 = .ok (.goto (-66), 3) := by decide +kernel
theorem dX10_passes_117 : decode cX10_passes 117 = .ok (.iconst 0, 1) := by decide +kernel
theorem dX10_passes_118 : decode cX10_passes 118 = .ok (.istore_n 2, 1) := by decide +kernel
theorem dX10_passes_119 : decode cX10_passes 119 = .ok (.iload_n 2, 1) := by decide +kernel
theorem dX10_passes_120 : decode cX10_passes 120 = .ok (.aload_n 0, 1) := by decide +kernel
theorem dX10_passes_121 : decode cX10_passes 121 = .ok (.getfield 138, 3) := by decide +kernel
theorem dX10_passes_124 : decode cX10_passes 124 = .ok (.if_icmp .ge 44, 3) := by decide +kernel
theorem dX10_passes_127 : decode cX10_passes 127 = .ok (.aload_n 0, 1) := by decide +kernel
theorem dX10_passes_128 : decode cX10_passes 128 = .ok (.getfield 145, 3) := by decide +kernel
theorem dX10_passes_131 : decode cX10_passes 131 = .ok (.iload_n 2, 1) := by decide +kernel
theorem dX10_passes_132 : decode cX10_passes 132 = .ok (.invokestatic 148, 3) := by decide +kernel
theorem dX10_passes_135 : decode cX10_passes 135 = .ok (.ifCond .eq 27, 3) := by decide +kernel
theorem dX10_passes_138 : decode cX10_passes 138 = .ok (.aload_n 0, 1) := by decide +kernel
theorem dX10_passes_139 : decode cX10_passes 139 = .ok (.getfield 13, 3) := by decide +kernel
theorem dX10_passes_142 : decode cX10_passes 142 = .ok (.iload_n 2, 1) := by decide +kernel
theorem dX10_passes_143 : decode cX10_passes 143 = .ok (.bipush 99, 2) := by decide +kernel
theorem dX10_passes_145 : decode cX10_passes 145 = .ok (.aload_n 0, 1) := by decide +kernel
theorem dX10_passes_146 : decode cX10_passes 146 = .ok (.getfield 13, 3) := by decide +kernel
theorem dX10_passes_149 : decode cX10_passes 149 = .ok (.iload_n 2, 1) := by decide +kernel
theorem dX10_passes_150 : decode cX10_passes 150 = .ok (.iaload, 1) := by decide +kernel
theorem dX10_passes_151 : decode cX10_passes 151 = .ok (.aload_n 0, 1) := by decide +kernel
theorem dX10_passes_152 : decode cX10_passes 152 = .ok (.getfield 83, 3) := by decide +kernel
theorem dX10_passes_155 : decode cX10_passes 155 = .ok (.iload_n 2, 1) := by decide +kernel
theorem dX10_passes_156 : decode cX10_passes 156 = .ok (.iaload, 1) := by decide +kernel
theorem dX10_passes_157 : decode cX10_passes 157 = .ok (.iadd, 1) := by decide +kernel
theorem dX10_passes_158 : decode cX10_passes 158 = .ok (.invokestatic 289, 3) := by decide +kernel
theorem dX10_passes_161 : decode cX10_passes 161 = .ok (.iastore, 1) := by decide +kernel
theorem dX10_passes_162 : decode cX10_passes 162 = .ok (.iinc 2 1, 3) := by decide +kernel
theorem dX10_passes_165 : decode cX10_passes 165 = .ok (.goto (-46), 3) := by decide +kernel
theorem dX10_passes_168 : decode cX10_passes 168 = .ok (.iconst 0, 1) := by decide +kernel
theorem dX10_passes_169 : decode cX10_passes 169 = .ok (.istore_n 2, 1) := by decide +kernel
theorem dX10_passes_170 : decode cX10_passes 170 = .ok (.iconst 0, 1) := by decide +kernel
theorem dX10_passes_171 : decode cX10_passes 171 = .ok (.istore_n 3, 1) := by decide +kernel
theorem dX10_passes_172 : decode cX10_passes 172 = .ok (.iload_n 3, 1) := by decide +kernel
theorem dX10_passes_173 : decode cX10_passes 173 = .ok (.aload_n 0, 1) := by decide +kernel
theorem dX10_passes_174 : decode cX10_passes 174 = .ok (.getfield 138, 3) := by decide +kernel
theorem dX10_passes_177 : decode cX10_passes 177 = .ok (.if_icmp .ge 49, 3) := by decide +kernel
theorem dX10_passes_180 : decode cX10_passes 180 = .ok (.aload_n 0, 1) := by decide +kernel
theorem dX10_passes_181 : decode cX10_passes 181 = .ok (.iload_n 3, 1) := by decide +kernel
theorem dX10_passes_182 : decode cX10_passes 182 = .ok (.invokevirtual 274, 3) := by decide +kernel
theorem dX10_passes_185 : decode cX10_passes 185 = .ok (.aload_n 0, 1) := by decide +kernel
theorem dX10_passes_186 : decode cX10_passes 186 = .ok (.getfield 68, 3) := by decide +kernel
theorem dX10_passes_189 : decode cX10_passes 189 = .ok (.bipush 11, 2) := by decide +kernel
theorem dX10_passes_191 : decode cX10_passes 191 = .ok (.iload_n 1, 1) := by decide +kernel
theorem dX10_passes_192 : decode cX10_passes 192 = .ok (.iastore, 1) := by decide +kernel
theorem dX10_passes_193 : decode cX10_passes 193 = .ok (.aload_n 0, 1) := by decide +kernel
theorem dX10_passes_194 : decode cX10_passes 194 = .ok (.getfield 145, 3) := by decide +kernel
theorem dX10_passes_197 : decode cX10_passes 197 = .ok (.iload_n 3, 1) := by decide +kernel
theorem dX10_passes_198 : decode cX10_passes 198 = .ok (.invokestatic 148, 3) := by decide +kernel
theorem dX10_passes_201 : decode cX10_passes 201 = .ok (.ifCond .eq 19, 3) := by decide +kernel
theorem dX10_passes_204 : decode cX10_passes 204 = .ok (.aload_n 0, 1) := by decide +kernel
theorem dX10_passes_205 : decode cX10_passes 205 = .ok (.iconst 0, 1) := by decide +kernel
theorem dX10_passes_206 : decode cX10_passes 206 = .ok (.bipush 120, 2) := by decide +kernel
theorem dX10_passes_208 : decode cX10_passes 208 = .ok (.invokevirtual 277, 3) := by decide +kernel
theorem dX10_passes_211 : decode cX10_passes 211 = .ok (.ifCond .eq 9, 3) := by decide +kernel
theorem dX10_passes_214 : decode cX10_passes 214 = .ok (.iload_n 2, 1) := by decide +kernel
theorem dX10_passes_215 : decode cX10_passes 215 = .ok (.iconst 1, 1) := by decide +kernel
theorem dX10_passes_216 : decode cX10_passes 216 = .ok (.iload_n 3, 1) := by decide +kernel
theorem dX10_passes_217 : decode cX10_passes 217 = .ok (.ishl, 1) := by decide +kernel
theorem dX10_passes_218 : decode cX10_passes 218 = .ok (.ior, 1) := by decide +kernel
theorem dX10_passes_219 : decode cX10_passes 219 = .ok (.istore_n 2, 1) := by decide +kernel
theorem dX10_passes_220 : decode cX10_passes 220 = .ok (.iinc 3 1, 3) := by decide +kernel
theorem dX10_passes_223 : decode cX10_passes 223 = .ok (.goto (-51), 3) := by decide +kernel
theorem dX10_passes_226 : decode cX10_passes 226 = .ok (.aload_n 0, 1) := by decide +kernel
theorem dX10_passes_227 : decode cX10_passes 227 = .ok (.aload_n 0, 1) := by decide +kernel
theorem dX10_passes_228 : decode cX10_passes 228 = .ok (.getfield 145, 3) := by decide +kernel
theorem dX10_passes_231 : decode cX10_passes 231 = .ok (.iload_n 2, 1) := by decide +kernel
theorem dX10_passes_232 : decode cX10_passes 232 = .ok (.iconst (-1), 1) := by decide +kernel
theorem dX10_passes_233 : decode cX10_passes 233 = .ok (.ixor, 1) := by decide +kernel
theorem dX10_passes_234 : decode cX10_passes 234 = .ok (.iand, 1) := by decide +kernel
theorem dX10_passes_235 : decode cX10_passes 235 = .ok (.putfield 145, 3) := by decide +kernel
theorem dX10_passes_238 : decode cX10_passes 238 = .ok (.aload_n 0, 1) := by decide +kernel
theorem dX10_passes_239 : decode cX10_passes 239 = .ok (.sipush 999, 3) := by decide +kernel
theorem dX10_passes_242 : decode cX10_passes 242 = .ok (.aload_n 0, 1) := by decide +kernel
theorem dX10_passes_243 : decode cX10_passes 243 = .ok (.getfield 270, 3) := by decide +kernel
theorem dX10_passes_246 : decode cX10_passes 246 = .ok (.iconst 1, 1) := by decide +kernel
theorem dX10_passes_247 : decode cX10_passes 247 = .ok (.iadd, 1) := by decide +kernel
theorem dX10_passes_248 : decode cX10_passes 248 = .ok (.invokestatic 289, 3) := by decide +kernel
theorem dX10_passes_251 : decode cX10_passes 251 = .ok (.putfield 270, 3) := by decide +kernel
theorem dX10_passes_254 : decode cX10_passes 254 = .ok (.iload_n 2, 1) := by decide +kernel
theorem dX10_passes_255 : decode cX10_passes 255 = .ok (.invokestatic 313, 3) := by decide +kernel
theorem dX10_passes_258 : decode cX10_passes 258 = .ok (.ireturn, 1) := by decide +kernel
theorem dX10_draws_0 : decode cX10_draws 0 = .ok (.aload_n 0, 1) := by decide +kernel
theorem dX10_draws_1 : decode cX10_draws 1 = .ok (.sipush 25173, 3) := by decide +kernel
theorem dX10_draws_4 : decode cX10_draws 4 = .ok (.aload_n 0, 1) := by decide +kernel
theorem dX10_draws_5 : decode cX10_draws 5 = .ok (.getfield 134, 3) := by decide +kernel
theorem dX10_draws_8 : decode cX10_draws 8 = .ok (.imul, 1) := by decide +kernel
theorem dX10_draws_9 : decode cX10_draws 9 = .ok (.sipush 13849, 3) := by decide +kernel
theorem dX10_draws_12 : decode cX10_draws 12 = .ok (.iadd, 1) := by decide +kernel
theorem dX10_draws_13 : decode cX10_draws 13 = .ok (.ldc_w 316, 3) := by decide +kernel
theorem dX10_draws_16 : decode cX10_draws 16 = .ok (.irem, 1) := by decide +kernel
theorem dX10_draws_17 : decode cX10_draws 17 = .ok (.putfield 134, 3) := by decide +kernel
theorem dX10_draws_20 : decode cX10_draws 20 = .ok (.aload_n 0, 1) := by decide +kernel
theorem dX10_draws_21 : decode cX10_draws 21 = .ok (.getfield 134, 3) := by decide +kernel
theorem dX10_draws_24 : decode cX10_draws 24 = .ok (.bipush 10, 2) := by decide +kernel
theorem dX10_draws_26 : decode cX10_draws 26 = .ok (.irem, 1) := by decide +kernel
theorem dX10_draws_27 : decode cX10_draws 27 = .ok (.ireturn, 1) := by decide +kernel
theorem dX10_runs_0 : decode cX10_runs 0 = .ok (.iconst 0, 1) := by decide +kernel
theorem dX10_runs_1 : decode cX10_runs 1 = .ok (.istore_n 2, 1) := by decide +kernel
theorem dX10_runs_2 : decode cX10_runs 2 = .ok (.iconst 0, 1) := by decide +kernel
theorem dX10_runs_3 : decode cX10_runs 3 = .ok (.istore_n 3, 1) := by decide +kernel
theorem dX10_runs_4 : decode cX10_runs 4 = .ok (.iload_n 3, 1) := by decide +kernel
theorem dX10_runs_5 : decode cX10_runs 5 = .ok (.iload_n 1, 1) := by decide +kernel
theorem dX10_runs_6 : decode cX10_runs 6 = .ok (.if_icmp .ge 20, 3) := by decide +kernel
theorem dX10_runs_9 : decode cX10_runs 9 = .ok (.iload_n 2, 1) := by decide +kernel
theorem dX10_runs_10 : decode cX10_runs 10 = .ok (.aload_n 0, 1) := by decide +kernel
theorem dX10_runs_11 : decode cX10_runs 11 = .ok (.aload_n 0, 1) := by decide +kernel
theorem dX10_runs_12 : decode cX10_runs 12 = .ok (.invokevirtual 317, 3) := by decide +kernel
theorem dX10_runs_15 : decode cX10_runs 15 = .ok (.invokevirtual 320, 3) := by decide +kernel
theorem dX10_runs_18 : decode cX10_runs 18 = .ok (.iadd, 1) := by decide +kernel
theorem dX10_runs_19 : decode cX10_runs 19 = .ok (.istore_n 2, 1) := by decide +kernel
theorem dX10_runs_20 : decode cX10_runs 20 = .ok (.iinc 3 1, 3) := by decide +kernel
theorem dX10_runs_23 : decode cX10_runs 23 = .ok (.goto (-19), 3) := by decide +kernel
theorem dX10_runs_26 : decode cX10_runs 26 = .ok (.iload_n 2, 1) := by decide +kernel
theorem dX10_runs_27 : decode cX10_runs 27 = .ok (.ireturn, 1) := by decide +kernel
theorem dX10_areYears_0 : decode cX10_areYears 0 = .ok (.iload_n 0, 1) := by decide +kernel
theorem dX10_areYears_1 : decode cX10_areYears 1 = .ok (.ifCond .le 13, 3) := by decide +kernel
theorem dX10_areYears_4 : decode cX10_areYears 4 = .ok (.iload_n 0, 1) := by decide +kernel
theorem dX10_areYears_5 : decode cX10_areYears 5 = .ok (.bipush 61, 2) := by decide +kernel
theorem dX10_areYears_7 : decode cX10_areYears 7 = .ok (.if_icmp .ge 7, 3) := by decide +kernel
theorem dX10_areYears_10 : decode cX10_areYears 10 = .ok (.iconst 1, 1) := by decide +kernel
theorem dX10_areYears_11 : decode cX10_areYears 11 = .ok (.goto 4, 3) := by decide +kernel
theorem dX10_areYears_14 : decode cX10_areYears 14 = .ok (.iconst 0, 1) := by decide +kernel
theorem dX10_areYears_15 : decode cX10_areYears 15 = .ok (.ireturn, 1) := by decide +kernel
theorem dX10_year_0 : decode cX10_year 0 = .ok (.iload_n 1, 1) := by decide +kernel
theorem dX10_year_1 : decode cX10_year 1 = .ok (.iconst 0, 1) := by decide +kernel
theorem dX10_year_2 : decode cX10_year 2 = .ok (.bipush 9, 2) := by decide +kernel
theorem dX10_year_4 : decode cX10_year 4 = .ok (.invokestatic 152, 3) := by decide +kernel
theorem dX10_year_7 : decode cX10_year 7 = .ok (.ifCond .eq 11, 3) := by decide +kernel
theorem dX10_year_10 : decode cX10_year 10 = .ok (.aload_n 0, 1) := by decide +kernel
theorem dX10_year_11 : decode cX10_year 11 = .ok (.iload_n 1, 1) := by decide +kernel
theorem dX10_year_12 : decode cX10_year 12 = .ok (.invokevirtual 320, 3) := by decide +kernel
theorem dX10_year_15 : decode cX10_year 15 = .ok (.goto 4, 3) := by decide +kernel
theorem dX10_year_18 : decode cX10_year 18 = .ok (.iconst (-1), 1) := by decide +kernel
theorem dX10_year_19 : decode cX10_year 19 = .ok (.ireturn, 1) := by decide +kernel
theorem dX10_years_0 : decode cX10_years 0 = .ok (.iload_n 1, 1) := by decide +kernel
theorem dX10_years_1 : decode cX10_years 1 = .ok (.invokestatic 323, 3) := by decide +kernel
theorem dX10_years_4 : decode cX10_years 4 = .ok (.ifCond .eq 11, 3) := by decide +kernel
theorem dX10_years_7 : decode cX10_years 7 = .ok (.aload_n 0, 1) := by decide +kernel
theorem dX10_years_8 : decode cX10_years 8 = .ok (.iload_n 1, 1) := by decide +kernel
theorem dX10_years_9 : decode cX10_years 9 = .ok (.invokevirtual 326, 3) := by decide +kernel
theorem dX10_years_12 : decode cX10_years 12 = .ok (.goto 4, 3) := by decide +kernel
theorem dX10_years_15 : decode cX10_years 15 = .ok (.iconst (-1), 1) := by decide +kernel
theorem dX10_years_16 : decode cX10_years 16 = .ok (.ireturn, 1) := by decide +kernel
theorem dX10_copies_0 : decode cX10_copies 0 = .ok (.iconst 0, 1) := by decide +kernel
theorem dX10_copies_1 : decode cX10_copies 1 = .ok (.istore_n 3, 1) := by decide +kernel
theorem dX10_copies_2 : decode cX10_copies 2 = .ok (.iload_n 3, 1) := by decide +kernel
theorem dX10_copies_3 : decode cX10_copies 3 = .ok (.iload_n 2, 1) := by decide +kernel
theorem dX10_copies_4 : decode cX10_copies 4 = .ok (.if_icmp .ge 15, 3) := by decide +kernel
theorem dX10_copies_7 : decode cX10_copies 7 = .ok (.aload_n 1, 1) := by decide +kernel
theorem dX10_copies_8 : decode cX10_copies 8 = .ok (.iload_n 3, 1) := by decide +kernel
theorem dX10_copies_9 : decode cX10_copies 9 = .ok (.aload_n 0, 1) := by decide +kernel
theorem dX10_copies_10 : decode cX10_copies 10 = .ok (.iload_n 3, 1) := by decide +kernel
theorem dX10_copies_11 : decode cX10_copies 11 = .ok (.iaload, 1) := by decide +kernel
theorem dX10_copies_12 : decode cX10_copies 12 = .ok (.iastore, 1) := by decide +kernel
theorem dX10_copies_13 : decode cX10_copies 13 = .ok (.iinc 3 1, 3) := by decide +kernel
theorem dX10_copies_16 : decode cX10_copies 16 = .ok (.goto (-14), 3) := by decide +kernel
theorem dX10_copies_19 : decode cX10_copies 19 = .ok (.return_, 1) := by decide +kernel
theorem dX10_begins_0 : decode cX10_begins 0 = .ok (.aload_n 0, 1) := by decide +kernel
theorem dX10_begins_1 : decode cX10_begins 1 = .ok (.aload_n 0, 1) := by decide +kernel
theorem dX10_begins_2 : decode cX10_begins 2 = .ok (.getfield 145, 3) := by decide +kernel
theorem dX10_begins_5 : decode cX10_begins 5 = .ok (.putfield 329, 3) := by decide +kernel
theorem dX10_begins_8 : decode cX10_begins 8 = .ok (.aload_n 0, 1) := by decide +kernel
theorem dX10_begins_9 : decode cX10_begins 9 = .ok (.aload_n 0, 1) := by decide +kernel
theorem dX10_begins_10 : decode cX10_begins 10 = .ok (.getfield 270, 3) := by decide +kernel
theorem dX10_begins_13 : decode cX10_begins 13 = .ok (.putfield 332, 3) := by decide +kernel
theorem dX10_begins_16 : decode cX10_begins 16 = .ok (.aload_n 0, 1) := by decide +kernel
theorem dX10_begins_17 : decode cX10_begins 17 = .ok (.aload_n 0, 1) := by decide +kernel
theorem dX10_begins_18 : decode cX10_begins 18 = .ok (.getfield 134, 3) := by decide +kernel
theorem dX10_begins_21 : decode cX10_begins 21 = .ok (.putfield 335, 3) := by decide +kernel
theorem dX10_begins_24 : decode cX10_begins 24 = .ok (.aload_n 0, 1) := by decide +kernel
theorem dX10_begins_25 : decode cX10_begins 25 = .ok (.getfield 13, 3) := by decide +kernel
theorem dX10_begins_28 : decode cX10_begins 28 = .ok (.aload_n 0, 1) := by decide +kernel
theorem dX10_begins_29 : decode cX10_begins 29 = .ok (.getfield 86, 3) := by decide +kernel
theorem dX10_begins_32 : decode cX10_begins 32 = .ok (.bipush 16, 2) := by decide +kernel
theorem dX10_begins_34 : decode cX10_begins 34 = .ok (.invokestatic 338, 3) := by decide +kernel
theorem dX10_begins_37 : decode cX10_begins 37 = .ok (.aload_n 0, 1) := by decide +kernel
theorem dX10_begins_38 : decode cX10_begins 38 = .ok (.getfield 16, 3) := by decide +kernel
theorem dX10_begins_41 : decode cX10_begins 41 = .ok (.aload_n 0, 1) := by decide +kernel
theorem dX10_begins_42 : decode cX10_begins 42 = .ok (.getfield 89, 3) := by decide +kernel
theorem dX10_begins_45 : decode cX10_begins 45 = .ok (.bipush 16, 2) := by decide +kernel
theorem dX10_begins_47 : decode cX10_begins 47 = .ok (.invokestatic 338, 3) := by decide +kernel
theorem dX10_begins_50 : decode cX10_begins 50 = .ok (.return_, 1) := by decide +kernel
theorem dX10_again_0 : decode cX10_again 0 = .ok (.aload_n 0, 1) := by decide +kernel
theorem dX10_again_1 : decode cX10_again 1 = .ok (.aload_n 0, 1) := by decide +kernel
theorem dX10_again_2 : decode cX10_again 2 = .ok (.getfield 329, 3) := by decide +kernel
theorem dX10_again_5 : decode cX10_again 5 = .ok (.putfield 145, 3) := by decide +kernel
theorem dX10_again_8 : decode cX10_again 8 = .ok (.aload_n 0, 1) := by decide +kernel
theorem dX10_again_9 : decode cX10_again 9 = .ok (.aload_n 0, 1) := by decide +kernel
theorem dX10_again_10 : decode cX10_again 10 = .ok (.getfield 332, 3) := by decide +kernel
theorem dX10_again_13 : decode cX10_again 13 = .ok (.putfield 270, 3) := by decide +kernel
theorem dX10_again_16 : decode cX10_again 16 = .ok (.aload_n 0, 1) := by decide +kernel
theorem dX10_again_17 : decode cX10_again 17 = .ok (.aload_n 0, 1) := by decide +kernel
theorem dX10_again_18 : decode cX10_again 18 = .ok (.getfield 335, 3) := by decide +kernel
theorem dX10_again_21 : decode cX10_again 21 = .ok (.putfield 134, 3) := by decide +kernel
theorem dX10_again_24 : decode cX10_again 24 = .ok (.aload_n 0, 1) := by decide +kernel
theorem dX10_again_25 : decode cX10_again 25 = .ok (.getfield 86, 3) := by decide +kernel
theorem dX10_again_28 : decode cX10_again 28 = .ok (.aload_n 0, 1) := by decide +kernel
theorem dX10_again_29 : decode cX10_again 29 = .ok (.getfield 13, 3) := by decide +kernel
theorem dX10_again_32 : decode cX10_again 32 = .ok (.bipush 16, 2) := by decide +kernel
theorem dX10_again_34 : decode cX10_again 34 = .ok (.invokestatic 338, 3) := by decide +kernel
theorem dX10_again_37 : decode cX10_again 37 = .ok (.aload_n 0, 1) := by decide +kernel
theorem dX10_again_38 : decode cX10_again 38 = .ok (.getfield 89, 3) := by decide +kernel
theorem dX10_again_41 : decode cX10_again 41 = .ok (.aload_n 0, 1) := by decide +kernel
theorem dX10_again_42 : decode cX10_again 42 = .ok (.getfield 16, 3) := by decide +kernel
theorem dX10_again_45 : decode cX10_again 45 = .ok (.bipush 16, 2) := by decide +kernel
theorem dX10_again_47 : decode cX10_again 47 = .ok (.invokestatic 338, 3) := by decide +kernel
theorem dX10_again_50 : decode cX10_again 50 = .ok (.return_, 1) := by decide +kernel
theorem dX10_tried_0 : decode cX10_tried 0 = .ok (.iload_n 1, 1) := by decide +kernel
theorem dX10_tried_1 : decode cX10_tried 1 = .ok (.invokestatic 323, 3) := by decide +kernel
theorem dX10_tried_4 : decode cX10_tried 4 = .ok (.ifCond .eq 22, 3) := by decide +kernel
theorem dX10_tried_7 : decode cX10_tried 7 = .ok (.iload_n 2, 1) := by decide +kernel
theorem dX10_tried_8 : decode cX10_tried 8 = .ok (.iconst (-1), 1) := by decide +kernel
theorem dX10_tried_9 : decode cX10_tried 9 = .ok (.if_icmp .eq 19, 3) := by decide +kernel
theorem dX10_tried_12 : decode cX10_tried 12 = .ok (.iload_n 2, 1) := by decide +kernel
theorem dX10_tried_13 : decode cX10_tried 13 = .ok (.bipush 20, 2) := by decide +kernel
theorem dX10_tried_15 : decode cX10_tried 15 = .ok (.if_icmp .eq 13, 3) := by decide +kernel
theorem dX10_tried_18 : decode cX10_tried 18 = .ok (.aload_n 0, 1) := by decide +kernel
theorem dX10_tried_19 : decode cX10_tried 19 = .ok (.iload_n 2, 1) := by decide +kernel
theorem dX10_tried_20 : decode cX10_tried 20 = .ok (.invokevirtual 141, 3) := by decide +kernel
theorem dX10_tried_23 : decode cX10_tried 23 = .ok (.ifCond .ne 5, 3) := by decide +kernel
theorem dX10_tried_26 : decode cX10_tried 26 = .ok (.iconst (-1), 1) := by decide +kernel
theorem dX10_tried_27 : decode cX10_tried 27 = .ok (.ireturn, 1) := by decide +kernel
theorem dX10_tried_28 : decode cX10_tried 28 = .ok (.aload_n 0, 1) := by decide +kernel
theorem dX10_tried_29 : decode cX10_tried 29 = .ok (.invokevirtual 342, 3) := by decide +kernel
theorem dX10_tried_32 : decode cX10_tried 32 = .ok (.aload_n 0, 1) := by decide +kernel
theorem dX10_tried_33 : decode cX10_tried 33 = .ok (.iload_n 1, 1) := by decide +kernel
theorem dX10_tried_34 : decode cX10_tried 34 = .ok (.invokevirtual 326, 3) := by decide +kernel
theorem dX10_tried_37 : decode cX10_tried 37 = .ok (.pop, 1) := by decide +kernel
theorem dX10_tried_38 : decode cX10_tried 38 = .ok (.iload_n 2, 1) := by decide +kernel
theorem dX10_tried_39 : decode cX10_tried 39 = .ok (.iconst (-1), 1) := by decide +kernel
theorem dX10_tried_40 : decode cX10_tried 40 = .ok (.if_icmp .ne 14, 3) := by decide +kernel
theorem dX10_tried_43 : decode cX10_tried 43 = .ok (.aload_n 0, 1) := by decide +kernel
theorem dX10_tried_44 : decode cX10_tried 44 = .ok (.iconst 0, 1) := by decide +kernel
theorem dX10_tried_45 : decode cX10_tried 45 = .ok (.invokevirtual 345, 3) := by decide +kernel
theorem dX10_tried_48 : decode cX10_tried 48 = .ok (.invokestatic 313, 3) := by decide +kernel
theorem dX10_tried_51 : decode cX10_tried 51 = .ok (.goto 40, 3) := by decide +kernel
theorem dX10_tried_54 : decode cX10_tried 54 = .ok (.iload_n 2, 1) := by decide +kernel
theorem dX10_tried_55 : decode cX10_tried 55 = .ok (.bipush 20, 2) := by decide +kernel
theorem dX10_tried_57 : decode cX10_tried 57 = .ok (.if_icmp .ne 13, 3) := by decide +kernel
theorem dX10_tried_60 : decode cX10_tried 60 = .ok (.aload_n 0, 1) := by decide +kernel
theorem dX10_tried_61 : decode cX10_tried 61 = .ok (.getfield 145, 3) := by decide +kernel
theorem dX10_tried_64 : decode cX10_tried 64 = .ok (.invokestatic 313, 3) := by decide +kernel
theorem dX10_tried_67 : decode cX10_tried 67 = .ok (.goto 24, 3) := by decide +kernel
theorem dX10_tried_70 : decode cX10_tried 70 = .ok (.aload_n 0, 1) := by decide +kernel
theorem dX10_tried_71 : decode cX10_tried 71 = .ok (.getfield 145, 3) := by decide +kernel
theorem dX10_tried_74 : decode cX10_tried 74 = .ok (.iload_n 2, 1) := by decide +kernel
theorem dX10_tried_75 : decode cX10_tried 75 = .ok (.invokestatic 148, 3) := by decide +kernel
theorem dX10_tried_78 : decode cX10_tried 78 = .ok (.ifCond .eq 11, 3) := by decide +kernel
theorem dX10_tried_81 : decode cX10_tried 81 = .ok (.aload_n 0, 1) := by decide +kernel
theorem dX10_tried_82 : decode cX10_tried 82 = .ok (.iload_n 2, 1) := by decide +kernel
theorem dX10_tried_83 : decode cX10_tried 83 = .ok (.invokevirtual 159, 3) := by decide +kernel
theorem dX10_tried_86 : decode cX10_tried 86 = .ok (.goto 5, 3) := by decide +kernel
theorem dX10_tried_89 : decode cX10_tried 89 = .ok (.bipush (-2), 2) := by decide +kernel
theorem dX10_tried_91 : decode cX10_tried 91 = .ok (.istore_n 3, 1) := by decide +kernel
theorem dX10_tried_92 : decode cX10_tried 92 = .ok (.aload_n 0, 1) := by decide +kernel
theorem dX10_tried_93 : decode cX10_tried 93 = .ok (.invokevirtual 348, 3) := by decide +kernel
theorem dX10_tried_96 : decode cX10_tried 96 = .ok (.iload_n 3, 1) := by decide +kernel
theorem dX10_tried_97 : decode cX10_tried 97 = .ok (.ireturn, 1) := by decide +kernel
theorem dX10_askedBy_0 : decode cX10_askedBy 0 = .ok (.iload_n 3, 1) := by decide +kernel
theorem dX10_askedBy_1 : decode cX10_askedBy 1 = .ok (.iload_n 2, 1) := by decide +kernel
theorem dX10_askedBy_2 : decode cX10_askedBy 2 = .ok (.invokestatic 148, 3) := by decide +kernel
theorem dX10_askedBy_5 : decode cX10_askedBy 5 = .ok (.ifCond .eq 7, 3) := by decide +kernel
theorem dX10_askedBy_8 : decode cX10_askedBy 8 = .ok (.iconst 0, 1) := by decide +kernel
theorem dX10_askedBy_9 : decode cX10_askedBy 9 = .ok (.goto 14, 3) := by decide +kernel
theorem dX10_askedBy_12 : decode cX10_askedBy 12 = .ok (.aload_n 0, 1) := by decide +kernel
theorem dX10_askedBy_13 : decode cX10_askedBy 13 = .ok (.getfield 71, 3) := by decide +kernel
theorem dX10_askedBy_16 : decode cX10_askedBy 16 = .ok (.bipush 16, 2) := by decide +kernel
theorem dX10_askedBy_18 : decode cX10_askedBy 18 = .ok (.iload_n 1, 1) := by decide +kernel
theorem dX10_askedBy_19 : decode cX10_askedBy 19 = .ok (.imul, 1) := by decide +kernel
theorem dX10_askedBy_20 : decode cX10_askedBy 20 = .ok (.iload_n 2, 1) := by decide +kernel
theorem dX10_askedBy_21 : decode cX10_askedBy 21 = .ok (.iadd, 1) := by decide +kernel
theorem dX10_askedBy_22 : decode cX10_askedBy 22 = .ok (.iaload, 1) := by decide +kernel
theorem dX10_askedBy_23 : decode cX10_askedBy 23 = .ok (.ireturn, 1) := by decide +kernel
theorem dX10_wayBy_0 : decode cX10_wayBy 0 = .ok (.aload_n 0, 1) := by decide +kernel
theorem dX10_wayBy_1 : decode cX10_wayBy 1 = .ok (.iload_n 1, 1) := by decide +kernel
theorem dX10_wayBy_2 : decode cX10_wayBy 2 = .ok (.iload_n 2, 1) := by decide +kernel
theorem dX10_wayBy_3 : decode cX10_wayBy 3 = .ok (.invokevirtual 301, 3) := by decide +kernel
theorem dX10_wayBy_6 : decode cX10_wayBy 6 = .ok (.ifCond .eq 15, 3) := by decide +kernel
theorem dX10_wayBy_9 : decode cX10_wayBy 9 = .ok (.aload_n 0, 1) := by decide +kernel
theorem dX10_wayBy_10 : decode cX10_wayBy 10 = .ok (.getfield 92, 3) := by decide +kernel
theorem dX10_wayBy_13 : decode cX10_wayBy 13 = .ok (.iload_n 2, 1) := by decide +kernel
theorem dX10_wayBy_14 : decode cX10_wayBy 14 = .ok (.iaload, 1) := by decide +kernel
theorem dX10_wayBy_15 : decode cX10_wayBy 15 = .ok (.ldc_w 273, 3) := by decide +kernel
theorem dX10_wayBy_18 : decode cX10_wayBy 18 = .ok (.if_icmp .lt 9, 3) := by decide +kernel
theorem dX10_wayBy_21 : decode cX10_wayBy 21 = .ok (.ldc_w 273, 3) := by decide +kernel
theorem dX10_wayBy_24 : decode cX10_wayBy 24 = .ok (.goto 22, 3) := by decide +kernel
theorem dX10_wayBy_27 : decode cX10_wayBy 27 = .ok (.bipush 32, 2) := by decide +kernel
theorem dX10_wayBy_29 : decode cX10_wayBy 29 = .ok (.aload_n 0, 1) := by decide +kernel
theorem dX10_wayBy_30 : decode cX10_wayBy 30 = .ok (.iload_n 1, 1) := by decide +kernel
theorem dX10_wayBy_31 : decode cX10_wayBy 31 = .ok (.iload_n 2, 1) := by decide +kernel
theorem dX10_wayBy_32 : decode cX10_wayBy 32 = .ok (.iload_n 3, 1) := by decide +kernel
theorem dX10_wayBy_33 : decode cX10_wayBy 33 = .ok (.invokevirtual 351, 3) := by decide +kernel
theorem dX10_wayBy_36 : decode cX10_wayBy 36 = .ok (.imul, 1) := by decide +kernel
theorem dX10_wayBy_37 : decode cX10_wayBy 37 = .ok (.iconst 1, 1) := by decide +kernel
theorem dX10_wayBy_38 : decode cX10_wayBy 38 = .ok (.iadd, 1) := by decide +kernel
theorem dX10_wayBy_39 : decode cX10_wayBy 39 = .ok (.aload_n 0, 1) := by decide +kernel
theorem dX10_wayBy_40 : decode cX10_wayBy 40 = .ok (.getfield 92, 3) := by decide +kernel
theorem dX10_wayBy_43 : decode cX10_wayBy 43 = .ok (.iload_n 2, 1) := by decide +kernel
theorem dX10_wayBy_44 : decode cX10_wayBy 44 = .ok (.iaload, 1) := by decide +kernel
theorem dX10_wayBy_45 : decode cX10_wayBy 45 = .ok (.iadd, 1) := by decide +kernel
theorem dX10_wayBy_46 : decode cX10_wayBy 46 = .ok (.ireturn, 1) := by decide +kernel
theorem dX10_laysWays_0 : decode cX10_laysWays 0 = .ok (.aload_n 0, 1) := by decide +kernel
theorem dX10_laysWays_1 : decode cX10_laysWays 1 = .ok (.invokevirtual 163, 3) := by decide +kernel
theorem dX10_laysWays_4 : decode cX10_laysWays 4 = .ok (.istore_n 2, 1) := by decide +kernel
theorem dX10_laysWays_5 : decode cX10_laysWays 5 = .ok (.iconst 0, 1) := by decide +kernel
theorem dX10_laysWays_6 : decode cX10_laysWays 6 = .ok (.istore_n 3, 1) := by decide +kernel
theorem dX10_laysWays_7 : decode cX10_laysWays 7 = .ok (.iload_n 3, 1) := by decide +kernel
theorem dX10_laysWays_8 : decode cX10_laysWays 8 = .ok (.aload_n 0, 1) := by decide +kernel
theorem dX10_laysWays_9 : decode cX10_laysWays 9 = .ok (.getfield 138, 3) := by decide +kernel
theorem dX10_laysWays_12 : decode cX10_laysWays 12 = .ok (.if_icmp .ge 27, 3) := by decide +kernel
theorem dX10_laysWays_15 : decode cX10_laysWays 15 = .ok (.aload_n 0, 1) := by decide +kernel
theorem dX10_laysWays_16 : decode cX10_laysWays 16 = .ok (.getfield 92, 3) := by decide +kernel
theorem dX10_laysWays_19 : decode cX10_laysWays 19 = .ok (.iload_n 3, 1) := by decide +kernel
theorem dX10_laysWays_20 : decode cX10_laysWays 20 = .ok (.iload_n 3, 1) := by decide +kernel
theorem dX10_laysWays_21 : decode cX10_laysWays 21 = .ok (.iload_n 2, 1) := by decide +kernel
theorem dX10_laysWays_22 : decode cX10_laysWays 22 = .ok (.if_icmp .ne 7, 3) := by decide +kernel
theorem dX10_laysWays_25 : decode cX10_laysWays 25 = .ok (.iconst 0, 1) := by decide +kernel
theorem dX10_laysWays_26 : decode cX10_laysWays 26 = .ok (.goto 6, 3) := by decide +kernel
theorem dX10_laysWays_29 : decode cX10_laysWays 29 = .ok (.ldc_w 273, 3) := by decide +kernel
theorem dX10_laysWays_32 : decode cX10_laysWays 32 = .ok (.iastore, 1) := by decide +kernel
theorem dX10_laysWays_33 : decode cX10_laysWays 33 = .ok (.iinc 3 1, 3) := by decide +kernel
theorem dX10_laysWays_36 : decode cX10_laysWays 36 = .ok (.goto (-29), 3) := by decide +kernel
theorem dX10_laysWays_39 : decode cX10_laysWays 39 = .ok (.iconst 1, 1) := by decide +kernel
theorem dX10_laysWays_40 : decode cX10_laysWays 40 = .ok (.istore_n 3, 1) := by decide +kernel
theorem dX10_laysWays_41 : decode cX10_laysWays 41 = .ok (.iload_n 3, 1) := by decide +kernel
theorem dX10_laysWays_42 : decode cX10_laysWays 42 = .ok (.ifCond .eq 90, 3) := by decide +kernel
theorem dX10_laysWays_45 : decode cX10_laysWays 45 = .ok (.iconst 0, 1) := by decide +kernel
theorem dX10_laysWays_46 : decode cX10_laysWays 46 = .ok (.istore_n 3, 1) := by decide +kernel
theorem dX10_laysWays_47 : decode cX10_laysWays 47 = .ok (.iconst 0, 1) := by decide +kernel
theorem dX10_laysWays_48 : decode cX10_laysWays 48 = .ok (.istore 4, 2) := by decide +kernel
theorem dX10_laysWays_50 : decode cX10_laysWays 50 = .ok (.iload 4, 2) := by decide +kernel
theorem dX10_laysWays_52 : decode cX10_laysWays 52 = .ok (.aload_n 0, 1) := by decide +kernel
theorem dX10_laysWays_53 : decode cX10_laysWays 53 = .ok (.getfield 138, 3) := by decide +kernel
theorem dX10_laysWays_56 : decode cX10_laysWays 56 = .ok (.if_icmp .ge 73, 3) := by decide +kernel
theorem dX10_laysWays_59 : decode cX10_laysWays 59 = .ok (.iconst 0, 1) := by decide +kernel
theorem dX10_laysWays_60 : decode cX10_laysWays 60 = .ok (.istore 5, 2) := by decide +kernel
theorem dX10_laysWays_62 : decode cX10_laysWays 62 = .ok (.iload 5, 2) := by decide +kernel
theorem dX10_laysWays_64 : decode cX10_laysWays 64 = .ok (.aload_n 0, 1) := by decide +kernel
theorem dX10_laysWays_65 : decode cX10_laysWays 65 = .ok (.getfield 138, 3) := by decide +kernel
theorem dX10_laysWays_68 : decode cX10_laysWays 68 = .ok (.if_icmp .ge 55, 3) := by decide +kernel
theorem dX10_laysWays_71 : decode cX10_laysWays 71 = .ok (.iload 4, 2) := by decide +kernel
theorem dX10_laysWays_73 : decode cX10_laysWays 73 = .ok (.iload_n 2, 1) := by decide +kernel
theorem dX10_laysWays_74 : decode cX10_laysWays 74 = .ok (.if_icmp .eq 43, 3) := by decide +kernel
theorem dX10_laysWays_77 : decode cX10_laysWays 77 = .ok (.aload_n 0, 1) := by decide +kernel
theorem dX10_laysWays_78 : decode cX10_laysWays 78 = .ok (.iload 4, 2) := by decide +kernel
theorem dX10_laysWays_80 : decode cX10_laysWays 80 = .ok (.iload 5, 2) := by decide +kernel
theorem dX10_laysWays_82 : decode cX10_laysWays 82 = .ok (.iload_n 1, 1) := by decide +kernel
theorem dX10_laysWays_83 : decode cX10_laysWays 83 = .ok (.invokevirtual 354, 3) := by decide +kernel
theorem dX10_laysWays_86 : decode cX10_laysWays 86 = .ok (.aload_n 0, 1) := by decide +kernel
theorem dX10_laysWays_87 : decode cX10_laysWays 87 = .ok (.getfield 92, 3) := by decide +kernel
theorem dX10_laysWays_90 : decode cX10_laysWays 90 = .ok (.iload 4, 2) := by decide +kernel
theorem dX10_laysWays_92 : decode cX10_laysWays 92 = .ok (.iaload, 1) := by decide +kernel
theorem dX10_laysWays_93 : decode cX10_laysWays 93 = .ok (.if_icmp .lt 6, 3) := by decide +kernel
theorem dX10_laysWays_96 : decode cX10_laysWays 96 = .ok (.goto 21, 3) := by decide +kernel
theorem dX10_laysWays_99 : decode cX10_laysWays 99 = .ok (.aload_n 0, 1) := by decide +kernel
theorem dX10_laysWays_100 : decode cX10_laysWays 100 = .ok (.getfield 92, 3) := by decide +kernel
theorem dX10_laysWays_103 : decode cX10_laysWays 103 = .ok (.iload 4, 2) := by decide +kernel
theorem dX10_laysWays_105 : decode cX10_laysWays 105 = .ok (.aload_n 0, 1) := by decide +kernel
theorem dX10_laysWays_106 : decode cX10_laysWays 106 = .ok (.iload 4, 2) := by decide +kernel
theorem dX10_laysWays_108 : decode cX10_laysWays 108 = .ok (.iload 5, 2) := by decide +kernel
theorem dX10_laysWays_110 : decode cX10_laysWays 110 = .ok (.iload_n 1, 1) := by decide +kernel
theorem dX10_laysWays_111 : decode cX10_laysWays 111 = .ok (.invokevirtual 354, 3) := by decide +kernel
theorem dX10_laysWays_114 : decode cX10_laysWays 114 = .ok (.iastore, 1) := by decide +kernel
theorem dX10_laysWays_115 : decode cX10_laysWays 115 = .ok (.iconst 1, 1) := by decide +kernel
theorem dX10_laysWays_116 : decode cX10_laysWays 116 = .ok (.istore_n 3, 1) := by decide +kernel
theorem dX10_laysWays_117 : decode cX10_laysWays 117 = .ok (.iinc 5 1, 3) := by decide +kernel
theorem dX10_laysWays_120 : decode cX10_laysWays 120 = .ok (.goto (-58), 3) := by decide +kernel
theorem dX10_laysWays_123 : decode cX10_laysWays 123 = .ok (.iinc 4 1, 3) := by decide +kernel
theorem dX10_laysWays_126 : decode cX10_laysWays 126 = .ok (.goto (-76), 3) := by decide +kernel
theorem dX10_laysWays_129 : decode cX10_laysWays 129 = .ok (.goto (-88), 3) := by decide +kernel
theorem dX10_laysWays_132 : decode cX10_laysWays 132 = .ok (.return_, 1) := by decide +kernel
theorem dX10_chain_0 : decode cX10_chain 0 = .ok (.aload_n 0, 1) := by decide +kernel
theorem dX10_chain_1 : decode cX10_chain 1 = .ok (.iload_n 1, 1) := by decide +kernel
theorem dX10_chain_2 : decode cX10_chain 2 = .ok (.invokevirtual 292, 3) := by decide +kernel
theorem dX10_chain_5 : decode cX10_chain 5 = .ok (.ifCond .eq 13, 3) := by decide +kernel
theorem dX10_chain_8 : decode cX10_chain 8 = .ok (.iload_n 2, 1) := by decide +kernel
theorem dX10_chain_9 : decode cX10_chain 9 = .ok (.iconst (-1), 1) := by decide +kernel
theorem dX10_chain_10 : decode cX10_chain 10 = .ok (.bipush 16, 2) := by decide +kernel
theorem dX10_chain_12 : decode cX10_chain 12 = .ok (.invokestatic 152, 3) := by decide +kernel
theorem dX10_chain_15 : decode cX10_chain 15 = .ok (.ifCond .ne 6, 3) := by decide +kernel
theorem dX10_chain_18 : decode cX10_chain 18 = .ok (.bipush (-3), 2) := by decide +kernel
theorem dX10_chain_20 : decode cX10_chain 20 = .ok (.ireturn, 1) := by decide +kernel
theorem dX10_chain_21 : decode cX10_chain 21 = .ok (.aload_n 0, 1) := by decide +kernel
theorem dX10_chain_22 : decode cX10_chain 22 = .ok (.getfield 74, 3) := by decide +kernel
theorem dX10_chain_25 : decode cX10_chain 25 = .ok (.iload_n 1, 1) := by decide +kernel
theorem dX10_chain_26 : decode cX10_chain 26 = .ok (.iaload, 1) := by decide +kernel
theorem dX10_chain_27 : decode cX10_chain 27 = .ok (.istore_n 3, 1) := by decide +kernel
theorem dX10_chain_28 : decode cX10_chain 28 = .ok (.aload_n 0, 1) := by decide +kernel
theorem dX10_chain_29 : decode cX10_chain 29 = .ok (.getfield 145, 3) := by decide +kernel
theorem dX10_chain_32 : decode cX10_chain 32 = .ok (.iload_n 3, 1) := by decide +kernel
theorem dX10_chain_33 : decode cX10_chain 33 = .ok (.invokestatic 148, 3) := by decide +kernel
theorem dX10_chain_36 : decode cX10_chain 36 = .ok (.ifCond .ne 6, 3) := by decide +kernel
theorem dX10_chain_39 : decode cX10_chain 39 = .ok (.bipush (-2), 2) := by decide +kernel
theorem dX10_chain_41 : decode cX10_chain 41 = .ok (.ireturn, 1) := by decide +kernel
theorem dX10_chain_42 : decode cX10_chain 42 = .ok (.aload_n 0, 1) := by decide +kernel
theorem dX10_chain_43 : decode cX10_chain 43 = .ok (.iconst 0, 1) := by decide +kernel
theorem dX10_chain_44 : decode cX10_chain 44 = .ok (.invokevirtual 295, 3) := by decide +kernel
theorem dX10_chain_47 : decode cX10_chain 47 = .ok (.aload_n 0, 1) := by decide +kernel
theorem dX10_chain_48 : decode cX10_chain 48 = .ok (.aload_n 0, 1) := by decide +kernel
theorem dX10_chain_49 : decode cX10_chain 49 = .ok (.getfield 80, 3) := by decide +kernel
theorem dX10_chain_52 : decode cX10_chain 52 = .ok (.iload_n 1, 1) := by decide +kernel
theorem dX10_chain_53 : decode cX10_chain 53 = .ok (.iaload, 1) := by decide +kernel
theorem dX10_chain_54 : decode cX10_chain 54 = .ok (.invokevirtual 357, 3) := by decide +kernel
theorem dX10_chain_57 : decode cX10_chain 57 = .ok (.aload_n 0, 1) := by decide +kernel
theorem dX10_chain_58 : decode cX10_chain 58 = .ok (.getfield 92, 3) := by decide +kernel
theorem dX10_chain_61 : decode cX10_chain 61 = .ok (.iload_n 3, 1) := by decide +kernel
theorem dX10_chain_62 : decode cX10_chain 62 = .ok (.iaload, 1) := by decide +kernel
theorem dX10_chain_63 : decode cX10_chain 63 = .ok (.ldc_w 273, 3) := by decide +kernel
theorem dX10_chain_66 : decode cX10_chain 66 = .ok (.if_icmp .lt 6, 3) := by decide +kernel
theorem dX10_chain_69 : decode cX10_chain 69 = .ok (.bipush (-2), 2) := by decide +kernel
theorem dX10_chain_71 : decode cX10_chain 71 = .ok (.ireturn, 1) := by decide +kernel
theorem dX10_chain_72 : decode cX10_chain 72 = .ok (.aload_n 0, 1) := by decide +kernel
theorem dX10_chain_73 : decode cX10_chain 73 = .ok (.getfield 92, 3) := by decide +kernel
theorem dX10_chain_76 : decode cX10_chain 76 = .ok (.iload_n 3, 1) := by decide +kernel
theorem dX10_chain_77 : decode cX10_chain 77 = .ok (.iaload, 1) := by decide +kernel
theorem dX10_chain_78 : decode cX10_chain 78 = .ok (.bipush 32, 2) := by decide +kernel
theorem dX10_chain_80 : decode cX10_chain 80 = .ok (.irem, 1) := by decide +kernel
theorem dX10_chain_81 : decode cX10_chain 81 = .ok (.iconst 1, 1) := by decide +kernel
theorem dX10_chain_82 : decode cX10_chain 82 = .ok (.iadd, 1) := by decide +kernel
theorem dX10_chain_83 : decode cX10_chain 83 = .ok (.istore 4, 2) := by decide +kernel
theorem dX10_chain_85 : decode cX10_chain 85 = .ok (.iload_n 2, 1) := by decide +kernel
theorem dX10_chain_86 : decode cX10_chain 86 = .ok (.iconst (-1), 1) := by decide +kernel
theorem dX10_chain_87 : decode cX10_chain 87 = .ok (.if_icmp .ne 13, 3) := by decide +kernel
theorem dX10_chain_90 : decode cX10_chain 90 = .ok (.aload_n 0, 1) := by decide +kernel
theorem dX10_chain_91 : decode cX10_chain 91 = .ok (.getfield 92, 3) := by decide +kernel
theorem dX10_chain_94 : decode cX10_chain 94 = .ok (.iload_n 3, 1) := by decide +kernel
theorem dX10_chain_95 : decode cX10_chain 95 = .ok (.iaload, 1) := by decide +kernel
theorem dX10_chain_96 : decode cX10_chain 96 = .ok (.bipush 32, 2) := by decide +kernel
theorem dX10_chain_98 : decode cX10_chain 98 = .ok (.idiv, 1) := by decide +kernel
theorem dX10_chain_99 : decode cX10_chain 99 = .ok (.ireturn, 1) := by decide +kernel
theorem dX10_chain_100 : decode cX10_chain 100 = .ok (.iload_n 2, 1) := by decide +kernel
theorem dX10_chain_101 : decode cX10_chain 101 = .ok (.bipush 16, 2) := by decide +kernel
theorem dX10_chain_103 : decode cX10_chain 103 = .ok (.if_icmp .ne 6, 3) := by decide +kernel
theorem dX10_chain_106 : decode cX10_chain 106 = .ok (.iload 4, 2) := by decide +kernel
theorem dX10_chain_108 : decode cX10_chain 108 = .ok (.ireturn, 1) := by decide +kernel
theorem dX10_chain_109 : decode cX10_chain 109 = .ok (.iload_n 2, 1) := by decide +kernel
theorem dX10_chain_110 : decode cX10_chain 110 = .ok (.iload 4, 2) := by decide +kernel
theorem dX10_chain_112 : decode cX10_chain 112 = .ok (.if_icmp .lt 6, 3) := by decide +kernel
theorem dX10_chain_115 : decode cX10_chain 115 = .ok (.bipush (-3), 2) := by decide +kernel
theorem dX10_chain_117 : decode cX10_chain 117 = .ok (.ireturn, 1) := by decide +kernel
theorem dX10_chain_118 : decode cX10_chain 118 = .ok (.iconst 0, 1) := by decide +kernel
theorem dX10_chain_119 : decode cX10_chain 119 = .ok (.istore 5, 2) := by decide +kernel
theorem dX10_chain_121 : decode cX10_chain 121 = .ok (.iload 5, 2) := by decide +kernel
theorem dX10_chain_123 : decode cX10_chain 123 = .ok (.iload_n 2, 1) := by decide +kernel
theorem dX10_chain_124 : decode cX10_chain 124 = .ok (.if_icmp .ge 46, 3) := by decide +kernel
theorem dX10_chain_127 : decode cX10_chain 127 = .ok (.iconst 0, 1) := by decide +kernel
theorem dX10_chain_128 : decode cX10_chain 128 = .ok (.istore 6, 2) := by decide +kernel
theorem dX10_chain_130 : decode cX10_chain 130 = .ok (.aload_n 0, 1) := by decide +kernel
theorem dX10_chain_131 : decode cX10_chain 131 = .ok (.iload_n 3, 1) := by decide +kernel
theorem dX10_chain_132 : decode cX10_chain 132 = .ok (.iload 6, 2) := by decide +kernel
theorem dX10_chain_134 : decode cX10_chain 134 = .ok (.aload_n 0, 1) := by decide +kernel
theorem dX10_chain_135 : decode cX10_chain 135 = .ok (.getfield 80, 3) := by decide +kernel
theorem dX10_chain_138 : decode cX10_chain 138 = .ok (.iload_n 1, 1) := by decide +kernel
theorem dX10_chain_139 : decode cX10_chain 139 = .ok (.iaload, 1) := by decide +kernel
theorem dX10_chain_140 : decode cX10_chain 140 = .ok (.invokevirtual 354, 3) := by decide +kernel
theorem dX10_chain_143 : decode cX10_chain 143 = .ok (.aload_n 0, 1) := by decide +kernel
theorem dX10_chain_144 : decode cX10_chain 144 = .ok (.getfield 92, 3) := by decide +kernel
theorem dX10_chain_147 : decode cX10_chain 147 = .ok (.iload_n 3, 1) := by decide +kernel
theorem dX10_chain_148 : decode cX10_chain 148 = .ok (.iaload, 1) := by decide +kernel
theorem dX10_chain_149 : decode cX10_chain 149 = .ok (.if_icmp .eq 12, 3) := by decide +kernel
theorem dX10_chain_152 : decode cX10_chain 152 = .ok (.iload 6, 2) := by decide +kernel
theorem dX10_chain_154 : decode cX10_chain 154 = .ok (.iconst 1, 1) := by decide +kernel
theorem dX10_chain_155 : decode cX10_chain 155 = .ok (.iadd, 1) := by decide +kernel
theorem dX10_chain_156 : decode cX10_chain 156 = .ok (.istore 6, 2) := by decide +kernel
theorem dX10_chain_158 : decode cX10_chain 158 = .ok (.goto (-28), 3) := by decide +kernel
theorem dX10_chain_161 : decode cX10_chain 161 = .ok (.iload 6, 2) := by decide +kernel
theorem dX10_chain_163 : decode cX10_chain 163 = .ok (.istore_n 3, 1) := by decide +kernel
theorem dX10_chain_164 : decode cX10_chain 164 = .ok (.iinc 5 1, 3) := by decide +kernel
theorem dX10_chain_167 : decode cX10_chain 167 = .ok (.goto (-46), 3) := by decide +kernel
theorem dX10_chain_170 : decode cX10_chain 170 = .ok (.iload_n 3, 1) := by decide +kernel
theorem dX10_chain_171 : decode cX10_chain 171 = .ok (.ireturn, 1) := by decide +kernel
theorem dX10_isSafe_0 : decode cX10_isSafe 0 = .ok (.iload_n 2, 1) := by decide +kernel
theorem dX10_isSafe_1 : decode cX10_isSafe 1 = .ok (.iconst 1, 1) := by decide +kernel
theorem dX10_isSafe_2 : decode cX10_isSafe 2 = .ok (.iload_n 1, 1) := by decide +kernel
theorem dX10_isSafe_3 : decode cX10_isSafe 3 = .ok (.ishl, 1) := by decide +kernel
theorem dX10_isSafe_4 : decode cX10_isSafe 4 = .ok (.iconst (-1), 1) := by decide +kernel
theorem dX10_isSafe_5 : decode cX10_isSafe 5 = .ok (.ixor, 1) := by decide +kernel
theorem dX10_isSafe_6 : decode cX10_isSafe 6 = .ok (.iand, 1) := by decide +kernel
theorem dX10_isSafe_7 : decode cX10_isSafe 7 = .ok (.istore 4, 2) := by decide +kernel
theorem dX10_isSafe_9 : decode cX10_isSafe 9 = .ok (.aload_n 0, 1) := by decide +kernel
theorem dX10_isSafe_10 : decode cX10_isSafe 10 = .ok (.invokevirtual 163, 3) := by decide +kernel
theorem dX10_isSafe_13 : decode cX10_isSafe 13 = .ok (.istore 5, 2) := by decide +kernel
theorem dX10_isSafe_15 : decode cX10_isSafe 15 = .ok (.iload 5, 2) := by decide +kernel
theorem dX10_isSafe_17 : decode cX10_isSafe 17 = .ok (.iconst (-1), 1) := by decide +kernel
theorem dX10_isSafe_18 : decode cX10_isSafe 18 = .ok (.if_icmp .eq 14, 3) := by decide +kernel
theorem dX10_isSafe_21 : decode cX10_isSafe 21 = .ok (.iload 4, 2) := by decide +kernel
theorem dX10_isSafe_23 : decode cX10_isSafe 23 = .ok (.iconst 1, 1) := by decide +kernel
theorem dX10_isSafe_24 : decode cX10_isSafe 24 = .ok (.iload 5, 2) := by decide +kernel
theorem dX10_isSafe_26 : decode cX10_isSafe 26 = .ok (.ishl, 1) := by decide +kernel
theorem dX10_isSafe_27 : decode cX10_isSafe 27 = .ok (.iconst (-1), 1) := by decide +kernel
theorem dX10_isSafe_28 : decode cX10_isSafe 28 = .ok (.ixor, 1) := by decide +kernel
theorem dX10_isSafe_29 : decode cX10_isSafe 29 = .ok (.iand, 1) := by decide +kernel
theorem dX10_isSafe_30 : decode cX10_isSafe 30 = .ok (.istore 4, 2) := by decide +kernel
theorem dX10_isSafe_32 : decode cX10_isSafe 32 = .ok (.iload_n 3, 1) := by decide +kernel
theorem dX10_isSafe_33 : decode cX10_isSafe 33 = .ok (.iload 4, 2) := by decide +kernel
theorem dX10_isSafe_35 : decode cX10_isSafe 35 = .ok (.invokestatic 313, 3) := by decide +kernel
theorem dX10_isSafe_38 : decode cX10_isSafe 38 = .ok (.invokestatic 289, 3) := by decide +kernel
theorem dX10_isSafe_41 : decode cX10_isSafe 41 = .ok (.istore 6, 2) := by decide +kernel
theorem dX10_isSafe_43 : decode cX10_isSafe 43 = .ok (.iload 6, 2) := by decide +kernel
theorem dX10_isSafe_45 : decode cX10_isSafe 45 = .ok (.ifCond .ne 10, 3) := by decide +kernel
theorem dX10_isSafe_48 : decode cX10_isSafe 48 = .ok (.aload_n 0, 1) := by decide +kernel
theorem dX10_isSafe_49 : decode cX10_isSafe 49 = .ok (.iload_n 1, 1) := by decide +kernel
theorem dX10_isSafe_50 : decode cX10_isSafe 50 = .ok (.iload_n 2, 1) := by decide +kernel
theorem dX10_isSafe_51 : decode cX10_isSafe 51 = .ok (.invokevirtual 307, 3) := by decide +kernel
theorem dX10_isSafe_54 : decode cX10_isSafe 54 = .ok (.ireturn, 1) := by decide +kernel
theorem dX10_isSafe_55 : decode cX10_isSafe 55 = .ok (.iconst 0, 1) := by decide +kernel
theorem dX10_isSafe_56 : decode cX10_isSafe 56 = .ok (.istore 7, 2) := by decide +kernel
theorem dX10_isSafe_58 : decode cX10_isSafe 58 = .ok (.iload 7, 2) := by decide +kernel
theorem dX10_isSafe_60 : decode cX10_isSafe 60 = .ok (.aload_n 0, 1) := by decide +kernel
theorem dX10_isSafe_61 : decode cX10_isSafe 61 = .ok (.getfield 138, 3) := by decide +kernel
theorem dX10_isSafe_64 : decode cX10_isSafe 64 = .ok (.if_icmp .ge 108, 3) := by decide +kernel
theorem dX10_isSafe_67 : decode cX10_isSafe 67 = .ok (.iload 4, 2) := by decide +kernel
theorem dX10_isSafe_69 : decode cX10_isSafe 69 = .ok (.iload 7, 2) := by decide +kernel
theorem dX10_isSafe_71 : decode cX10_isSafe 71 = .ok (.invokestatic 148, 3) := by decide +kernel
theorem dX10_isSafe_74 : decode cX10_isSafe 74 = .ok (.ifCond .ne 6, 3) := by decide +kernel
theorem dX10_isSafe_77 : decode cX10_isSafe 77 = .ok (.goto 89, 3) := by decide +kernel
theorem dX10_isSafe_80 : decode cX10_isSafe 80 = .ok (.iload 6, 2) := by decide +kernel
theorem dX10_isSafe_82 : decode cX10_isSafe 82 = .ok (.iconst 1, 1) := by decide +kernel
theorem dX10_isSafe_83 : decode cX10_isSafe 83 = .ok (.if_icmp .ne 21, 3) := by decide +kernel
theorem dX10_isSafe_86 : decode cX10_isSafe 86 = .ok (.aload_n 0, 1) := by decide +kernel
theorem dX10_isSafe_87 : decode cX10_isSafe 87 = .ok (.iload_n 1, 1) := by decide +kernel
theorem dX10_isSafe_88 : decode cX10_isSafe 88 = .ok (.iload_n 2, 1) := by decide +kernel
theorem dX10_isSafe_89 : decode cX10_isSafe 89 = .ok (.iconst 1, 1) := by decide +kernel
theorem dX10_isSafe_90 : decode cX10_isSafe 90 = .ok (.iload 7, 2) := by decide +kernel
theorem dX10_isSafe_92 : decode cX10_isSafe 92 = .ok (.ishl, 1) := by decide +kernel
theorem dX10_isSafe_93 : decode cX10_isSafe 93 = .ok (.iconst (-1), 1) := by decide +kernel
theorem dX10_isSafe_94 : decode cX10_isSafe 94 = .ok (.ixor, 1) := by decide +kernel
theorem dX10_isSafe_95 : decode cX10_isSafe 95 = .ok (.iand, 1) := by decide +kernel
theorem dX10_isSafe_96 : decode cX10_isSafe 96 = .ok (.invokevirtual 307, 3) := by decide +kernel
theorem dX10_isSafe_99 : decode cX10_isSafe 99 = .ok (.ifCond .ne 5, 3) := by decide +kernel
theorem dX10_isSafe_102 : decode cX10_isSafe 102 = .ok (.iconst 0, 1) := by decide +kernel
theorem dX10_isSafe_103 : decode cX10_isSafe 103 = .ok (.ireturn, 1) := by decide +kernel
theorem dX10_isSafe_104 : decode cX10_isSafe 104 = .ok (.iload 7, 2) := by decide +kernel
theorem dX10_isSafe_106 : decode cX10_isSafe 106 = .ok (.iconst 1, 1) := by decide +kernel
theorem dX10_isSafe_107 : decode cX10_isSafe 107 = .ok (.iadd, 1) := by decide +kernel
theorem dX10_isSafe_108 : decode cX10_isSafe 108 = .ok (.istore 8, 2) := by decide +kernel
theorem dX10_isSafe_110 : decode cX10_isSafe 110 = .ok (.iload 8, 2) := by decide +kernel
theorem dX10_isSafe_112 : decode cX10_isSafe 112 = .ok (.aload_n 0, 1) := by decide +kernel
theorem dX10_isSafe_113 : decode cX10_isSafe 113 = .ok (.getfield 138, 3) := by decide +kernel
theorem dX10_isSafe_116 : decode cX10_isSafe 116 = .ok (.if_icmp .ge 50, 3) := by decide +kernel
theorem dX10_isSafe_119 : decode cX10_isSafe 119 = .ok (.iload 6, 2) := by decide +kernel
theorem dX10_isSafe_121 : decode cX10_isSafe 121 = .ok (.iconst 2, 1) := by decide +kernel
theorem dX10_isSafe_122 : decode cX10_isSafe 122 = .ok (.if_icmp .ne 44, 3) := by decide +kernel
theorem dX10_isSafe_125 : decode cX10_isSafe 125 = .ok (.iload 4, 2) := by decide +kernel
theorem dX10_isSafe_127 : decode cX10_isSafe 127 = .ok (.iload 8, 2) := by decide +kernel
theorem dX10_isSafe_129 : decode cX10_isSafe 129 = .ok (.invokestatic 148, 3) := by decide +kernel
theorem dX10_isSafe_132 : decode cX10_isSafe 132 = .ok (.ifCond .eq 28, 3) := by decide +kernel
theorem dX10_isSafe_135 : decode cX10_isSafe 135 = .ok (.aload_n 0, 1) := by decide +kernel
theorem dX10_isSafe_136 : decode cX10_isSafe 136 = .ok (.iload_n 1, 1) := by decide +kernel
theorem dX10_isSafe_137 : decode cX10_isSafe 137 = .ok (.iload_n 2, 1) := by decide +kernel
theorem dX10_isSafe_138 : decode cX10_isSafe 138 = .ok (.iconst 1, 1) := by decide +kernel
theorem dX10_isSafe_139 : decode cX10_isSafe 139 = .ok (.iload 7, 2) := by decide +kernel
theorem dX10_isSafe_141 : decode cX10_isSafe 141 = .ok (.ishl, 1) := by decide +kernel
theorem dX10_isSafe_142 : decode cX10_isSafe 142 = .ok (.iconst (-1), 1) := by decide +kernel
theorem dX10_isSafe_143 : decode cX10_isSafe 143 = .ok (.ixor, 1) := by decide +kernel
theorem dX10_isSafe_144 : decode cX10_isSafe 144 = .ok (.iand, 1) := by decide +kernel
theorem dX10_isSafe_145 : decode cX10_isSafe 145 = .ok (.iconst 1, 1) := by decide +kernel
theorem dX10_isSafe_146 : decode cX10_isSafe 146 = .ok (.iload 8, 2) := by decide +kernel
theorem dX10_isSafe_148 : decode cX10_isSafe 148 = .ok (.ishl, 1) := by decide +kernel
theorem dX10_isSafe_149 : decode cX10_isSafe 149 = .ok (.iconst (-1), 1) := by decide +kernel
theorem dX10_isSafe_150 : decode cX10_isSafe 150 = .ok (.ixor, 1) := by decide +kernel
theorem dX10_isSafe_151 : decode cX10_isSafe 151 = .ok (.iand, 1) := by decide +kernel
theorem dX10_isSafe_152 : decode cX10_isSafe 152 = .ok (.invokevirtual 307, 3) := by decide +kernel
theorem dX10_isSafe_155 : decode cX10_isSafe 155 = .ok (.ifCond .ne 5, 3) := by decide +kernel
theorem dX10_isSafe_158 : decode cX10_isSafe 158 = .ok (.iconst 0, 1) := by decide +kernel
theorem dX10_isSafe_159 : decode cX10_isSafe 159 = .ok (.ireturn, 1) := by decide +kernel
theorem dX10_isSafe_160 : decode cX10_isSafe 160 = .ok (.iinc 8 1, 3) := by decide +kernel
theorem dX10_isSafe_163 : decode cX10_isSafe 163 = .ok (.goto (-53), 3) := by decide +kernel
theorem dX10_isSafe_166 : decode cX10_isSafe 166 = .ok (.iinc 7 1, 3) := by decide +kernel
theorem dX10_isSafe_169 : decode cX10_isSafe 169 = .ok (.goto (-111), 3) := by decide +kernel
theorem dX10_isSafe_172 : decode cX10_isSafe 172 = .ok (.iconst 1, 1) := by decide +kernel
theorem dX10_isSafe_173 : decode cX10_isSafe 173 = .ok (.ireturn, 1) := by decide +kernel
theorem dX10_pricesOf_0 : decode cX10_pricesOf 0 = .ok (.iconst 0, 1) := by decide +kernel
theorem dX10_pricesOf_1 : decode cX10_pricesOf 1 = .ok (.istore_n 3, 1) := by decide +kernel
theorem dX10_pricesOf_2 : decode cX10_pricesOf 2 = .ok (.iconst 0, 1) := by decide +kernel
theorem dX10_pricesOf_3 : decode cX10_pricesOf 3 = .ok (.istore 4, 2) := by decide +kernel
theorem dX10_pricesOf_5 : decode cX10_pricesOf 5 = .ok (.iload 4, 2) := by decide +kernel
theorem dX10_pricesOf_7 : decode cX10_pricesOf 7 = .ok (.aload_n 0, 1) := by decide +kernel
theorem dX10_pricesOf_8 : decode cX10_pricesOf 8 = .ok (.getfield 138, 3) := by decide +kernel
theorem dX10_pricesOf_11 : decode cX10_pricesOf 11 = .ok (.if_icmp .ge 49, 3) := by decide +kernel
theorem dX10_pricesOf_14 : decode cX10_pricesOf 14 = .ok (.iload_n 2, 1) := by decide +kernel
theorem dX10_pricesOf_15 : decode cX10_pricesOf 15 = .ok (.iload 4, 2) := by decide +kernel
theorem dX10_pricesOf_17 : decode cX10_pricesOf 17 = .ok (.invokestatic 148, 3) := by decide +kernel
theorem dX10_pricesOf_20 : decode cX10_pricesOf 20 = .ok (.ifCond .ne 6, 3) := by decide +kernel
theorem dX10_pricesOf_23 : decode cX10_pricesOf 23 = .ok (.goto 31, 3) := by decide +kernel
theorem dX10_pricesOf_26 : decode cX10_pricesOf 26 = .ok (.aload_n 0, 1) := by decide +kernel
theorem dX10_pricesOf_27 : decode cX10_pricesOf 27 = .ok (.iload_n 1, 1) := by decide +kernel
theorem dX10_pricesOf_28 : decode cX10_pricesOf 28 = .ok (.iload_n 2, 1) := by decide +kernel
theorem dX10_pricesOf_29 : decode cX10_pricesOf 29 = .ok (.ior, 1) := by decide +kernel
theorem dX10_pricesOf_30 : decode cX10_pricesOf 30 = .ok (.iload 4, 2) := by decide +kernel
theorem dX10_pricesOf_32 : decode cX10_pricesOf 32 = .ok (.invokevirtual 298, 3) := by decide +kernel
theorem dX10_pricesOf_35 : decode cX10_pricesOf 35 = .ok (.istore 5, 2) := by decide +kernel
theorem dX10_pricesOf_37 : decode cX10_pricesOf 37 = .ok (.iload 5, 2) := by decide +kernel
theorem dX10_pricesOf_39 : decode cX10_pricesOf 39 = .ok (.ldc_w 273, 3) := by decide +kernel
theorem dX10_pricesOf_42 : decode cX10_pricesOf 42 = .ok (.if_icmp .ne 7, 3) := by decide +kernel
theorem dX10_pricesOf_45 : decode cX10_pricesOf 45 = .ok (.ldc_w 273, 3) := by decide +kernel
theorem dX10_pricesOf_48 : decode cX10_pricesOf 48 = .ok (.ireturn, 1) := by decide +kernel
theorem dX10_pricesOf_49 : decode cX10_pricesOf 49 = .ok (.iload_n 3, 1) := by decide +kernel
theorem dX10_pricesOf_50 : decode cX10_pricesOf 50 = .ok (.iload 5, 2) := by decide +kernel
theorem dX10_pricesOf_52 : decode cX10_pricesOf 52 = .ok (.iadd, 1) := by decide +kernel
theorem dX10_pricesOf_53 : decode cX10_pricesOf 53 = .ok (.istore_n 3, 1) := by decide +kernel
theorem dX10_pricesOf_54 : decode cX10_pricesOf 54 = .ok (.iinc 4 1, 3) := by decide +kernel
theorem dX10_pricesOf_57 : decode cX10_pricesOf 57 = .ok (.goto (-52), 3) := by decide +kernel
theorem dX10_pricesOf_60 : decode cX10_pricesOf 60 = .ok (.iload_n 3, 1) := by decide +kernel
theorem dX10_pricesOf_61 : decode cX10_pricesOf 61 = .ok (.ireturn, 1) := by decide +kernel
theorem dX10_safe_0 : decode cX10_safe 0 = .ok (.aload_n 0, 1) := by decide +kernel
theorem dX10_safe_1 : decode cX10_safe 1 = .ok (.iload_n 1, 1) := by decide +kernel
theorem dX10_safe_2 : decode cX10_safe 2 = .ok (.invokevirtual 292, 3) := by decide +kernel
theorem dX10_safe_5 : decode cX10_safe 5 = .ok (.ifCond .eq 21, 3) := by decide +kernel
theorem dX10_safe_8 : decode cX10_safe 8 = .ok (.iload_n 2, 1) := by decide +kernel
theorem dX10_safe_9 : decode cX10_safe 9 = .ok (.iconst 1, 1) := by decide +kernel
theorem dX10_safe_10 : decode cX10_safe 10 = .ok (.iconst 2, 1) := by decide +kernel
theorem dX10_safe_11 : decode cX10_safe 11 = .ok (.invokestatic 152, 3) := by decide +kernel
theorem dX10_safe_14 : decode cX10_safe 14 = .ok (.ifCond .eq 12, 3) := by decide +kernel
theorem dX10_safe_17 : decode cX10_safe 17 = .ok (.iload_n 3, 1) := by decide +kernel
theorem dX10_safe_18 : decode cX10_safe 18 = .ok (.iconst 0, 1) := by decide +kernel
theorem dX10_safe_19 : decode cX10_safe 19 = .ok (.iconst 1, 1) := by decide +kernel
theorem dX10_safe_20 : decode cX10_safe 20 = .ok (.invokestatic 152, 3) := by decide +kernel
theorem dX10_safe_23 : decode cX10_safe 23 = .ok (.ifCond .ne 5, 3) := by decide +kernel
theorem dX10_safe_26 : decode cX10_safe 26 = .ok (.iconst (-1), 1) := by decide +kernel
theorem dX10_safe_27 : decode cX10_safe 27 = .ok (.ireturn, 1) := by decide +kernel
theorem dX10_safe_28 : decode cX10_safe 28 = .ok (.aload_n 0, 1) := by decide +kernel
theorem dX10_safe_29 : decode cX10_safe 29 = .ok (.getfield 74, 3) := by decide +kernel
theorem dX10_safe_32 : decode cX10_safe 32 = .ok (.iload_n 1, 1) := by decide +kernel
theorem dX10_safe_33 : decode cX10_safe 33 = .ok (.iaload, 1) := by decide +kernel
theorem dX10_safe_34 : decode cX10_safe 34 = .ok (.istore 4, 2) := by decide +kernel
theorem dX10_safe_36 : decode cX10_safe 36 = .ok (.aload_n 0, 1) := by decide +kernel
theorem dX10_safe_37 : decode cX10_safe 37 = .ok (.getfield 145, 3) := by decide +kernel
theorem dX10_safe_40 : decode cX10_safe 40 = .ok (.iload 4, 2) := by decide +kernel
theorem dX10_safe_42 : decode cX10_safe 42 = .ok (.invokestatic 148, 3) := by decide +kernel
theorem dX10_safe_45 : decode cX10_safe 45 = .ok (.ifCond .ne 6, 3) := by decide +kernel
theorem dX10_safe_48 : decode cX10_safe 48 = .ok (.bipush (-2), 2) := by decide +kernel
theorem dX10_safe_50 : decode cX10_safe 50 = .ok (.ireturn, 1) := by decide +kernel
theorem dX10_safe_51 : decode cX10_safe 51 = .ok (.aload_n 0, 1) := by decide +kernel
theorem dX10_safe_52 : decode cX10_safe 52 = .ok (.iconst 0, 1) := by decide +kernel
theorem dX10_safe_53 : decode cX10_safe 53 = .ok (.invokevirtual 295, 3) := by decide +kernel
theorem dX10_safe_56 : decode cX10_safe 56 = .ok (.iconst (-1), 1) := by decide +kernel
theorem dX10_safe_57 : decode cX10_safe 57 = .ok (.istore 5, 2) := by decide +kernel
theorem dX10_safe_59 : decode cX10_safe 59 = .ok (.ldc_w 273, 3) := by decide +kernel
theorem dX10_safe_62 : decode cX10_safe 62 = .ok (.istore 6, 2) := by decide +kernel
theorem dX10_safe_64 : decode cX10_safe 64 = .ok (.iconst 0, 1) := by decide +kernel
theorem dX10_safe_65 : decode cX10_safe 65 = .ok (.istore 7, 2) := by decide +kernel
theorem dX10_safe_67 : decode cX10_safe 67 = .ok (.iload 7, 2) := by decide +kernel
theorem dX10_safe_69 : decode cX10_safe 69 = .ok (.iconst 1, 1) := by decide +kernel
theorem dX10_safe_70 : decode cX10_safe 70 = .ok (.aload_n 0, 1) := by decide +kernel
theorem dX10_safe_71 : decode cX10_safe 71 = .ok (.getfield 138, 3) := by decide +kernel
theorem dX10_safe_74 : decode cX10_safe 74 = .ok (.ishl, 1) := by decide +kernel
theorem dX10_safe_75 : decode cX10_safe 75 = .ok (.if_icmp .ge 133, 3) := by decide +kernel
theorem dX10_safe_78 : decode cX10_safe 78 = .ok (.iload 7, 2) := by decide +kernel
theorem dX10_safe_80 : decode cX10_safe 80 = .ok (.aload_n 0, 1) := by decide +kernel
theorem dX10_safe_81 : decode cX10_safe 81 = .ok (.getfield 80, 3) := by decide +kernel
theorem dX10_safe_84 : decode cX10_safe 84 = .ok (.iload_n 1, 1) := by decide +kernel
theorem dX10_safe_85 : decode cX10_safe 85 = .ok (.iaload, 1) := by decide +kernel
theorem dX10_safe_86 : decode cX10_safe 86 = .ok (.iand, 1) := by decide +kernel
theorem dX10_safe_87 : decode cX10_safe 87 = .ok (.ifCond .ne 115, 3) := by decide +kernel
theorem dX10_safe_90 : decode cX10_safe 90 = .ok (.iload 7, 2) := by decide +kernel
theorem dX10_safe_92 : decode cX10_safe 92 = .ok (.aload_n 0, 1) := by decide +kernel
theorem dX10_safe_93 : decode cX10_safe 93 = .ok (.getfield 145, 3) := by decide +kernel
theorem dX10_safe_96 : decode cX10_safe 96 = .ok (.iconst (-1), 1) := by decide +kernel
theorem dX10_safe_97 : decode cX10_safe 97 = .ok (.ixor, 1) := by decide +kernel
theorem dX10_safe_98 : decode cX10_safe 98 = .ok (.iand, 1) := by decide +kernel
theorem dX10_safe_99 : decode cX10_safe 99 = .ok (.ifCond .ne 103, 3) := by decide +kernel
theorem dX10_safe_102 : decode cX10_safe 102 = .ok (.iload 7, 2) := by decide +kernel
theorem dX10_safe_104 : decode cX10_safe 104 = .ok (.invokestatic 313, 3) := by decide +kernel
theorem dX10_safe_107 : decode cX10_safe 107 = .ok (.iconst 5, 1) := by decide +kernel
theorem dX10_safe_108 : decode cX10_safe 108 = .ok (.if_icmp .le 6, 3) := by decide +kernel
theorem dX10_safe_111 : decode cX10_safe 111 = .ok (.goto 91, 3) := by decide +kernel
theorem dX10_safe_114 : decode cX10_safe 114 = .ok (.aload_n 0, 1) := by decide +kernel
theorem dX10_safe_115 : decode cX10_safe 115 = .ok (.aload_n 0, 1) := by decide +kernel
theorem dX10_safe_116 : decode cX10_safe 116 = .ok (.getfield 80, 3) := by decide +kernel
theorem dX10_safe_119 : decode cX10_safe 119 = .ok (.iload_n 1, 1) := by decide +kernel
theorem dX10_safe_120 : decode cX10_safe 120 = .ok (.iaload, 1) := by decide +kernel
theorem dX10_safe_121 : decode cX10_safe 121 = .ok (.iload 7, 2) := by decide +kernel
theorem dX10_safe_123 : decode cX10_safe 123 = .ok (.invokevirtual 360, 3) := by decide +kernel
theorem dX10_safe_126 : decode cX10_safe 126 = .ok (.istore 8, 2) := by decide +kernel
theorem dX10_safe_128 : decode cX10_safe 128 = .ok (.iload 8, 2) := by decide +kernel
theorem dX10_safe_130 : decode cX10_safe 130 = .ok (.iload 6, 2) := by decide +kernel
theorem dX10_safe_132 : decode cX10_safe 132 = .ok (.if_icmp .gt 70, 3) := by decide +kernel
theorem dX10_safe_135 : decode cX10_safe 135 = .ok (.iload 8, 2) := by decide +kernel
theorem dX10_safe_137 : decode cX10_safe 137 = .ok (.ldc_w 273, 3) := by decide +kernel
theorem dX10_safe_140 : decode cX10_safe 140 = .ok (.if_icmp .eq 62, 3) := by decide +kernel
theorem dX10_safe_143 : decode cX10_safe 143 = .ok (.iload 8, 2) := by decide +kernel
theorem dX10_safe_145 : decode cX10_safe 145 = .ok (.iload 6, 2) := by decide +kernel
theorem dX10_safe_147 : decode cX10_safe 147 = .ok (.if_icmp .ne 25, 3) := by decide +kernel
theorem dX10_safe_150 : decode cX10_safe 150 = .ok (.iload 5, 2) := by decide +kernel
theorem dX10_safe_152 : decode cX10_safe 152 = .ok (.iconst (-1), 1) := by decide +kernel
theorem dX10_safe_153 : decode cX10_safe 153 = .ok (.if_icmp .eq 19, 3) := by decide +kernel
theorem dX10_safe_156 : decode cX10_safe 156 = .ok (.iload 7, 2) := by decide +kernel
theorem dX10_safe_158 : decode cX10_safe 158 = .ok (.invokestatic 313, 3) := by decide +kernel
theorem dX10_safe_161 : decode cX10_safe 161 = .ok (.iload 5, 2) := by decide +kernel
theorem dX10_safe_163 : decode cX10_safe 163 = .ok (.invokestatic 313, 3) := by decide +kernel
theorem dX10_safe_166 : decode cX10_safe 166 = .ok (.if_icmp .lt 6, 3) := by decide +kernel
theorem dX10_safe_169 : decode cX10_safe 169 = .ok (.goto 33, 3) := by decide +kernel
theorem dX10_safe_172 : decode cX10_safe 172 = .ok (.aload_n 0, 1) := by decide +kernel
theorem dX10_safe_173 : decode cX10_safe 173 = .ok (.iload 4, 2) := by decide +kernel
theorem dX10_safe_175 : decode cX10_safe 175 = .ok (.aload_n 0, 1) := by decide +kernel
theorem dX10_safe_176 : decode cX10_safe 176 = .ok (.getfield 80, 3) := by decide +kernel
theorem dX10_safe_179 : decode cX10_safe 179 = .ok (.iload_n 1, 1) := by decide +kernel
theorem dX10_safe_180 : decode cX10_safe 180 = .ok (.iaload, 1) := by decide +kernel
theorem dX10_safe_181 : decode cX10_safe 181 = .ok (.iload 7, 2) := by decide +kernel
theorem dX10_safe_183 : decode cX10_safe 183 = .ok (.ior, 1) := by decide +kernel
theorem dX10_safe_184 : decode cX10_safe 184 = .ok (.iload_n 2, 1) := by decide +kernel
theorem dX10_safe_185 : decode cX10_safe 185 = .ok (.invokevirtual 363, 3) := by decide +kernel
theorem dX10_safe_188 : decode cX10_safe 188 = .ok (.ifCond .ne 6, 3) := by decide +kernel
theorem dX10_safe_191 : decode cX10_safe 191 = .ok (.goto 11, 3) := by decide +kernel
theorem dX10_safe_194 : decode cX10_safe 194 = .ok (.iload 7, 2) := by decide +kernel
theorem dX10_safe_196 : decode cX10_safe 196 = .ok (.istore 5, 2) := by decide +kernel
theorem dX10_safe_198 : decode cX10_safe 198 = .ok (.iload 8, 2) := by decide +kernel
theorem dX10_safe_200 : decode cX10_safe 200 = .ok (.istore 6, 2) := by decide +kernel
theorem dX10_safe_202 : decode cX10_safe 202 = .ok (.iinc 7 1, 3) := by decide +kernel
theorem dX10_safe_205 : decode cX10_safe 205 = .ok (.goto (-138), 3) := by decide +kernel
theorem dX10_safe_208 : decode cX10_safe 208 = .ok (.iload 5, 2) := by decide +kernel
theorem dX10_safe_210 : decode cX10_safe 210 = .ok (.iconst (-1), 1) := by decide +kernel
theorem dX10_safe_211 : decode cX10_safe 211 = .ok (.if_icmp .ne 8, 3) := by decide +kernel
theorem dX10_safe_214 : decode cX10_safe 214 = .ok (.bipush (-2), 2) := by decide +kernel
theorem dX10_safe_216 : decode cX10_safe 216 = .ok (.goto 14, 3) := by decide +kernel
theorem dX10_safe_219 : decode cX10_safe 219 = .ok (.iload_n 3, 1) := by decide +kernel
theorem dX10_safe_220 : decode cX10_safe 220 = .ok (.ifCond .ne 8, 3) := by decide +kernel
theorem dX10_safe_223 : decode cX10_safe 223 = .ok (.iload 6, 2) := by decide +kernel
theorem dX10_safe_225 : decode cX10_safe 225 = .ok (.goto 5, 3) := by decide +kernel
theorem dX10_safe_228 : decode cX10_safe 228 = .ok (.iload 5, 2) := by decide +kernel
theorem dX10_safe_230 : decode cX10_safe 230 = .ok (.ireturn, 1) := by decide +kernel
theorem dX10_cut_0 : decode cX10_cut 0 = .ok (.aload_n 0, 1) := by decide +kernel
theorem dX10_cut_1 : decode cX10_cut 1 = .ok (.iload_n 1, 1) := by decide +kernel
theorem dX10_cut_2 : decode cX10_cut 2 = .ok (.invokevirtual 292, 3) := by decide +kernel
theorem dX10_cut_5 : decode cX10_cut 5 = .ok (.ifCond .eq 19, 3) := by decide +kernel
theorem dX10_cut_8 : decode cX10_cut 8 = .ok (.aload_n 0, 1) := by decide +kernel
theorem dX10_cut_9 : decode cX10_cut 9 = .ok (.getfield 145, 3) := by decide +kernel
theorem dX10_cut_12 : decode cX10_cut 12 = .ok (.aload_n 0, 1) := by decide +kernel
theorem dX10_cut_13 : decode cX10_cut 13 = .ok (.getfield 74, 3) := by decide +kernel
theorem dX10_cut_16 : decode cX10_cut 16 = .ok (.iload_n 1, 1) := by decide +kernel
theorem dX10_cut_17 : decode cX10_cut 17 = .ok (.iaload, 1) := by decide +kernel
theorem dX10_cut_18 : decode cX10_cut 18 = .ok (.invokestatic 148, 3) := by decide +kernel
theorem dX10_cut_21 : decode cX10_cut 21 = .ok (.ifCond .ne 5, 3) := by decide +kernel
theorem dX10_cut_24 : decode cX10_cut 24 = .ok (.iconst (-1), 1) := by decide +kernel
theorem dX10_cut_25 : decode cX10_cut 25 = .ok (.ireturn, 1) := by decide +kernel
theorem dX10_cut_26 : decode cX10_cut 26 = .ok (.aload_n 0, 1) := by decide +kernel
theorem dX10_cut_27 : decode cX10_cut 27 = .ok (.iconst 0, 1) := by decide +kernel
theorem dX10_cut_28 : decode cX10_cut 28 = .ok (.invokevirtual 295, 3) := by decide +kernel
theorem dX10_cut_31 : decode cX10_cut 31 = .ok (.aload_n 0, 1) := by decide +kernel
theorem dX10_cut_32 : decode cX10_cut 32 = .ok (.aload_n 0, 1) := by decide +kernel
theorem dX10_cut_33 : decode cX10_cut 33 = .ok (.getfield 74, 3) := by decide +kernel
theorem dX10_cut_36 : decode cX10_cut 36 = .ok (.iload_n 1, 1) := by decide +kernel
theorem dX10_cut_37 : decode cX10_cut 37 = .ok (.iaload, 1) := by decide +kernel
theorem dX10_cut_38 : decode cX10_cut 38 = .ok (.aload_n 0, 1) := by decide +kernel
theorem dX10_cut_39 : decode cX10_cut 39 = .ok (.getfield 145, 3) := by decide +kernel
theorem dX10_cut_42 : decode cX10_cut 42 = .ok (.invokevirtual 304, 3) := by decide +kernel
theorem dX10_cut_45 : decode cX10_cut 45 = .ok (.istore_n 2, 1) := by decide +kernel
theorem dX10_cut_46 : decode cX10_cut 46 = .ok (.iload_n 2, 1) := by decide +kernel
theorem dX10_cut_47 : decode cX10_cut 47 = .ok (.aload_n 0, 1) := by decide +kernel
theorem dX10_cut_48 : decode cX10_cut 48 = .ok (.invokevirtual 163, 3) := by decide +kernel
theorem dX10_cut_51 : decode cX10_cut 51 = .ok (.invokestatic 148, 3) := by decide +kernel
theorem dX10_cut_54 : decode cX10_cut 54 = .ok (.ifCond .eq 8, 3) := by decide +kernel
theorem dX10_cut_57 : decode cX10_cut 57 = .ok (.bipush (-2), 2) := by decide +kernel
theorem dX10_cut_59 : decode cX10_cut 59 = .ok (.goto 4, 3) := by decide +kernel
theorem dX10_cut_62 : decode cX10_cut 62 = .ok (.iload_n 2, 1) := by decide +kernel
theorem dX10_cut_63 : decode cX10_cut 63 = .ok (.ireturn, 1) := by decide +kernel
theorem dX10_soonest_0 : decode cX10_soonest 0 = .ok (.aload_n 0, 1) := by decide +kernel
theorem dX10_soonest_1 : decode cX10_soonest 1 = .ok (.iload_n 1, 1) := by decide +kernel
theorem dX10_soonest_2 : decode cX10_soonest 2 = .ok (.invokevirtual 292, 3) := by decide +kernel
theorem dX10_soonest_5 : decode cX10_soonest 5 = .ok (.ifCond .ne 5, 3) := by decide +kernel
theorem dX10_soonest_8 : decode cX10_soonest 8 = .ok (.iconst (-1), 1) := by decide +kernel
theorem dX10_soonest_9 : decode cX10_soonest 9 = .ok (.ireturn, 1) := by decide +kernel
theorem dX10_soonest_10 : decode cX10_soonest 10 = .ok (.aload_n 0, 1) := by decide +kernel
theorem dX10_soonest_11 : decode cX10_soonest 11 = .ok (.invokevirtual 342, 3) := by decide +kernel
theorem dX10_soonest_14 : decode cX10_soonest 14 = .ok (.bipush (-2), 2) := by decide +kernel
theorem dX10_soonest_16 : decode cX10_soonest 16 = .ok (.istore_n 2, 1) := by decide +kernel
theorem dX10_soonest_17 : decode cX10_soonest 17 = .ok (.iconst 0, 1) := by decide +kernel
theorem dX10_soonest_18 : decode cX10_soonest 18 = .ok (.istore_n 3, 1) := by decide +kernel
theorem dX10_soonest_19 : decode cX10_soonest 19 = .ok (.iload_n 3, 1) := by decide +kernel
theorem dX10_soonest_20 : decode cX10_soonest 20 = .ok (.bipush 60, 2) := by decide +kernel
theorem dX10_soonest_22 : decode cX10_soonest 22 = .ok (.if_icmp .gt 52, 3) := by decide +kernel
theorem dX10_soonest_25 : decode cX10_soonest 25 = .ok (.iload_n 2, 1) := by decide +kernel
theorem dX10_soonest_26 : decode cX10_soonest 26 = .ok (.bipush (-2), 2) := by decide +kernel
theorem dX10_soonest_28 : decode cX10_soonest 28 = .ok (.if_icmp .ne 46, 3) := by decide +kernel
theorem dX10_soonest_31 : decode cX10_soonest 31 = .ok (.iload_n 3, 1) := by decide +kernel
theorem dX10_soonest_32 : decode cX10_soonest 32 = .ok (.ifCond .le 12, 3) := by decide +kernel
theorem dX10_soonest_35 : decode cX10_soonest 35 = .ok (.aload_n 0, 1) := by decide +kernel
theorem dX10_soonest_36 : decode cX10_soonest 36 = .ok (.aload_n 0, 1) := by decide +kernel
theorem dX10_soonest_37 : decode cX10_soonest 37 = .ok (.invokevirtual 317, 3) := by decide +kernel
theorem dX10_soonest_40 : decode cX10_soonest 40 = .ok (.invokevirtual 320, 3) := by decide +kernel
theorem dX10_soonest_43 : decode cX10_soonest 43 = .ok (.pop, 1) := by decide +kernel
theorem dX10_soonest_44 : decode cX10_soonest 44 = .ok (.aload_n 0, 1) := by decide +kernel
theorem dX10_soonest_45 : decode cX10_soonest 45 = .ok (.iconst 0, 1) := by decide +kernel
theorem dX10_soonest_46 : decode cX10_soonest 46 = .ok (.invokevirtual 295, 3) := by decide +kernel
theorem dX10_soonest_49 : decode cX10_soonest 49 = .ok (.aload_n 0, 1) := by decide +kernel
theorem dX10_soonest_50 : decode cX10_soonest 50 = .ok (.aload_n 0, 1) := by decide +kernel
theorem dX10_soonest_51 : decode cX10_soonest 51 = .ok (.getfield 74, 3) := by decide +kernel
theorem dX10_soonest_54 : decode cX10_soonest 54 = .ok (.iload_n 1, 1) := by decide +kernel
theorem dX10_soonest_55 : decode cX10_soonest 55 = .ok (.iaload, 1) := by decide +kernel
theorem dX10_soonest_56 : decode cX10_soonest 56 = .ok (.aload_n 0, 1) := by decide +kernel
theorem dX10_soonest_57 : decode cX10_soonest 57 = .ok (.getfield 145, 3) := by decide +kernel
theorem dX10_soonest_60 : decode cX10_soonest 60 = .ok (.invokevirtual 307, 3) := by decide +kernel
theorem dX10_soonest_63 : decode cX10_soonest 63 = .ok (.ifCond .eq 5, 3) := by decide +kernel
theorem dX10_soonest_66 : decode cX10_soonest 66 = .ok (.iload_n 3, 1) := by decide +kernel
theorem dX10_soonest_67 : decode cX10_soonest 67 = .ok (.istore_n 2, 1) := by decide +kernel
theorem dX10_soonest_68 : decode cX10_soonest 68 = .ok (.iinc 3 1, 3) := by decide +kernel
theorem dX10_soonest_71 : decode cX10_soonest 71 = .ok (.goto (-52), 3) := by decide +kernel
theorem dX10_soonest_74 : decode cX10_soonest 74 = .ok (.aload_n 0, 1) := by decide +kernel
theorem dX10_soonest_75 : decode cX10_soonest 75 = .ok (.invokevirtual 348, 3) := by decide +kernel
theorem dX10_soonest_78 : decode cX10_soonest 78 = .ok (.iload_n 2, 1) := by decide +kernel
theorem dX10_soonest_79 : decode cX10_soonest 79 = .ok (.ireturn, 1) := by decide +kernel
theorem dX10_canChoose_0 : decode cX10_canChoose 0 = .ok (.aload_n 0, 1) := by decide +kernel
theorem dX10_canChoose_1 : decode cX10_canChoose 1 = .ok (.getfield 101, 3) := by decide +kernel
theorem dX10_canChoose_4 : decode cX10_canChoose 4 = .ok (.iload_n 1, 1) := by decide +kernel
theorem dX10_canChoose_5 : decode cX10_canChoose 5 = .ok (.iconst 1, 1) := by decide +kernel
theorem dX10_canChoose_6 : decode cX10_canChoose 6 = .ok (.iadd, 1) := by decide +kernel
theorem dX10_canChoose_7 : decode cX10_canChoose 7 = .ok (.aload_n 0, 1) := by decide +kernel
theorem dX10_canChoose_8 : decode cX10_canChoose 8 = .ok (.getfield 101, 3) := by decide +kernel
theorem dX10_canChoose_11 : decode cX10_canChoose 11 = .ok (.iload_n 1, 1) := by decide +kernel
theorem dX10_canChoose_12 : decode cX10_canChoose 12 = .ok (.iaload, 1) := by decide +kernel
theorem dX10_canChoose_13 : decode cX10_canChoose 13 = .ok (.iastore, 1) := by decide +kernel
theorem dX10_canChoose_14 : decode cX10_canChoose 14 = .ok (.aload_n 0, 1) := by decide +kernel
theorem dX10_canChoose_15 : decode cX10_canChoose 15 = .ok (.getfield 104, 3) := by decide +kernel
theorem dX10_canChoose_18 : decode cX10_canChoose 18 = .ok (.iload_n 1, 1) := by decide +kernel
theorem dX10_canChoose_19 : decode cX10_canChoose 19 = .ok (.iconst 1, 1) := by decide +kernel
theorem dX10_canChoose_20 : decode cX10_canChoose 20 = .ok (.iadd, 1) := by decide +kernel
theorem dX10_canChoose_21 : decode cX10_canChoose 21 = .ok (.aload_n 0, 1) := by decide +kernel
theorem dX10_canChoose_22 : decode cX10_canChoose 22 = .ok (.getfield 104, 3) := by decide +kernel
theorem dX10_canChoose_25 : decode cX10_canChoose 25 = .ok (.iload_n 1, 1) := by decide +kernel
theorem dX10_canChoose_26 : decode cX10_canChoose 26 = .ok (.iaload, 1) := by decide +kernel
theorem dX10_canChoose_27 : decode cX10_canChoose 27 = .ok (.iastore, 1) := by decide +kernel
theorem dX10_canChoose_28 : decode cX10_canChoose 28 = .ok (.iload_n 2, 1) := by decide +kernel
theorem dX10_canChoose_29 : decode cX10_canChoose 29 = .ok (.iconst (-1), 1) := by decide +kernel
theorem dX10_canChoose_30 : decode cX10_canChoose 30 = .ok (.if_icmp .ne 5, 3) := by decide +kernel
theorem dX10_canChoose_33 : decode cX10_canChoose 33 = .ok (.iconst 1, 1) := by decide +kernel
theorem dX10_canChoose_34 : decode cX10_canChoose 34 = .ok (.ireturn, 1) := by decide +kernel
theorem dX10_canChoose_35 : decode cX10_canChoose 35 = .ok (.aload_n 0, 1) := by decide +kernel
theorem dX10_canChoose_36 : decode cX10_canChoose 36 = .ok (.iload_n 2, 1) := by decide +kernel
theorem dX10_canChoose_37 : decode cX10_canChoose 37 = .ok (.invokevirtual 141, 3) := by decide +kernel
theorem dX10_canChoose_40 : decode cX10_canChoose 40 = .ok (.ifCond .eq 23, 3) := by decide +kernel
theorem dX10_canChoose_43 : decode cX10_canChoose 43 = .ok (.aload_n 0, 1) := by decide +kernel
theorem dX10_canChoose_44 : decode cX10_canChoose 44 = .ok (.getfield 101, 3) := by decide +kernel
theorem dX10_canChoose_47 : decode cX10_canChoose 47 = .ok (.iload_n 1, 1) := by decide +kernel
theorem dX10_canChoose_48 : decode cX10_canChoose 48 = .ok (.iaload, 1) := by decide +kernel
theorem dX10_canChoose_49 : decode cX10_canChoose 49 = .ok (.aload_n 0, 1) := by decide +kernel
theorem dX10_canChoose_50 : decode cX10_canChoose 50 = .ok (.getfield 104, 3) := by decide +kernel
theorem dX10_canChoose_53 : decode cX10_canChoose 53 = .ok (.iload_n 1, 1) := by decide +kernel
theorem dX10_canChoose_54 : decode cX10_canChoose 54 = .ok (.iaload, 1) := by decide +kernel
theorem dX10_canChoose_55 : decode cX10_canChoose 55 = .ok (.ior, 1) := by decide +kernel
theorem dX10_canChoose_56 : decode cX10_canChoose 56 = .ok (.iload_n 2, 1) := by decide +kernel
theorem dX10_canChoose_57 : decode cX10_canChoose 57 = .ok (.invokestatic 148, 3) := by decide +kernel
theorem dX10_canChoose_60 : decode cX10_canChoose 60 = .ok (.ifCond .eq 5, 3) := by decide +kernel
theorem dX10_canChoose_63 : decode cX10_canChoose 63 = .ok (.iconst 0, 1) := by decide +kernel
theorem dX10_canChoose_64 : decode cX10_canChoose 64 = .ok (.ireturn, 1) := by decide +kernel
theorem dX10_canChoose_65 : decode cX10_canChoose 65 = .ok (.aload_n 0, 1) := by decide +kernel
theorem dX10_canChoose_66 : decode cX10_canChoose 66 = .ok (.iload_n 1, 1) := by decide +kernel
theorem dX10_canChoose_67 : decode cX10_canChoose 67 = .ok (.iconst 2, 1) := by decide +kernel
theorem dX10_canChoose_68 : decode cX10_canChoose 68 = .ok (.irem, 1) := by decide +kernel
theorem dX10_canChoose_69 : decode cX10_canChoose 69 = .ok (.ifCond .ne 12, 3) := by decide +kernel
theorem dX10_canChoose_72 : decode cX10_canChoose 72 = .ok (.aload_n 0, 1) := by decide +kernel
theorem dX10_canChoose_73 : decode cX10_canChoose 73 = .ok (.getfield 101, 3) := by decide +kernel
theorem dX10_canChoose_76 : decode cX10_canChoose 76 = .ok (.iload_n 1, 1) := by decide +kernel
theorem dX10_canChoose_77 : decode cX10_canChoose 77 = .ok (.iaload, 1) := by decide +kernel
theorem dX10_canChoose_78 : decode cX10_canChoose 78 = .ok (.goto 9, 3) := by decide +kernel
theorem dX10_canChoose_81 : decode cX10_canChoose 81 = .ok (.aload_n 0, 1) := by decide +kernel
theorem dX10_canChoose_82 : decode cX10_canChoose 82 = .ok (.getfield 104, 3) := by decide +kernel
theorem dX10_canChoose_85 : decode cX10_canChoose 85 = .ok (.iload_n 1, 1) := by decide +kernel
theorem dX10_canChoose_86 : decode cX10_canChoose 86 = .ok (.iaload, 1) := by decide +kernel
theorem dX10_canChoose_87 : decode cX10_canChoose 87 = .ok (.iload_n 2, 1) := by decide +kernel
theorem dX10_canChoose_88 : decode cX10_canChoose 88 = .ok (.invokevirtual 298, 3) := by decide +kernel
theorem dX10_canChoose_91 : decode cX10_canChoose 91 = .ok (.ldc_w 273, 3) := by decide +kernel
theorem dX10_canChoose_94 : decode cX10_canChoose 94 = .ok (.if_icmp .ne 5, 3) := by decide +kernel
theorem dX10_canChoose_97 : decode cX10_canChoose 97 = .ok (.iconst 0, 1) := by decide +kernel
theorem dX10_canChoose_98 : decode cX10_canChoose 98 = .ok (.ireturn, 1) := by decide +kernel
theorem dX10_canChoose_99 : decode cX10_canChoose 99 = .ok (.iload_n 1, 1) := by decide +kernel
theorem dX10_canChoose_100 : decode cX10_canChoose 100 = .ok (.iconst 2, 1) := by decide +kernel
theorem dX10_canChoose_101 : decode cX10_canChoose 101 = .ok (.irem, 1) := by decide +kernel
theorem dX10_canChoose_102 : decode cX10_canChoose 102 = .ok (.ifCond .ne 26, 3) := by decide +kernel
theorem dX10_canChoose_105 : decode cX10_canChoose 105 = .ok (.aload_n 0, 1) := by decide +kernel
theorem dX10_canChoose_106 : decode cX10_canChoose 106 = .ok (.getfield 101, 3) := by decide +kernel
theorem dX10_canChoose_109 : decode cX10_canChoose 109 = .ok (.iload_n 1, 1) := by decide +kernel
theorem dX10_canChoose_110 : decode cX10_canChoose 110 = .ok (.iconst 1, 1) := by decide +kernel
theorem dX10_canChoose_111 : decode cX10_canChoose 111 = .ok (.iadd, 1) := by decide +kernel
theorem dX10_canChoose_112 : decode cX10_canChoose 112 = .ok (.aload_n 0, 1) := by decide +kernel
theorem dX10_canChoose_113 : decode cX10_canChoose 113 = .ok (.getfield 101, 3) := by decide +kernel
theorem dX10_canChoose_116 : decode cX10_canChoose 116 = .ok (.iload_n 1, 1) := by decide +kernel
theorem dX10_canChoose_117 : decode cX10_canChoose 117 = .ok (.iconst 1, 1) := by decide +kernel
theorem dX10_canChoose_118 : decode cX10_canChoose 118 = .ok (.iadd, 1) := by decide +kernel
theorem dX10_canChoose_119 : decode cX10_canChoose 119 = .ok (.iaload, 1) := by decide +kernel
theorem dX10_canChoose_120 : decode cX10_canChoose 120 = .ok (.iconst 1, 1) := by decide +kernel
theorem dX10_canChoose_121 : decode cX10_canChoose 121 = .ok (.iload_n 2, 1) := by decide +kernel
theorem dX10_canChoose_122 : decode cX10_canChoose 122 = .ok (.ishl, 1) := by decide +kernel
theorem dX10_canChoose_123 : decode cX10_canChoose 123 = .ok (.ior, 1) := by decide +kernel
theorem dX10_canChoose_124 : decode cX10_canChoose 124 = .ok (.iastore, 1) := by decide +kernel
theorem dX10_canChoose_125 : decode cX10_canChoose 125 = .ok (.goto 23, 3) := by decide +kernel
theorem dX10_canChoose_128 : decode cX10_canChoose 128 = .ok (.aload_n 0, 1) := by decide +kernel
theorem dX10_canChoose_129 : decode cX10_canChoose 129 = .ok (.getfield 104, 3) := by decide +kernel
theorem dX10_canChoose_132 : decode cX10_canChoose 132 = .ok (.iload_n 1, 1) := by decide +kernel
theorem dX10_canChoose_133 : decode cX10_canChoose 133 = .ok (.iconst 1, 1) := by decide +kernel
theorem dX10_canChoose_134 : decode cX10_canChoose 134 = .ok (.iadd, 1) := by decide +kernel
theorem dX10_canChoose_135 : decode cX10_canChoose 135 = .ok (.aload_n 0, 1) := by decide +kernel
theorem dX10_canChoose_136 : decode cX10_canChoose 136 = .ok (.getfield 104, 3) := by decide +kernel
theorem dX10_canChoose_139 : decode cX10_canChoose 139 = .ok (.iload_n 1, 1) := by decide +kernel
theorem dX10_canChoose_140 : decode cX10_canChoose 140 = .ok (.iconst 1, 1) := by decide +kernel
theorem dX10_canChoose_141 : decode cX10_canChoose 141 = .ok (.iadd, 1) := by decide +kernel
theorem dX10_canChoose_142 : decode cX10_canChoose 142 = .ok (.iaload, 1) := by decide +kernel
theorem dX10_canChoose_143 : decode cX10_canChoose 143 = .ok (.iconst 1, 1) := by decide +kernel
theorem dX10_canChoose_144 : decode cX10_canChoose 144 = .ok (.iload_n 2, 1) := by decide +kernel
theorem dX10_canChoose_145 : decode cX10_canChoose 145 = .ok (.ishl, 1) := by decide +kernel
theorem dX10_canChoose_146 : decode cX10_canChoose 146 = .ok (.ior, 1) := by decide +kernel
theorem dX10_canChoose_147 : decode cX10_canChoose 147 = .ok (.iastore, 1) := by decide +kernel
theorem dX10_canChoose_148 : decode cX10_canChoose 148 = .ok (.iconst 1, 1) := by decide +kernel
theorem dX10_canChoose_149 : decode cX10_canChoose 149 = .ok (.ireturn, 1) := by decide +kernel
theorem dX10_tells_0 : decode cX10_tells 0 = .ok (.aload_n 0, 1) := by decide +kernel
theorem dX10_tells_1 : decode cX10_tells 1 = .ok (.getfield 98, 3) := by decide +kernel
theorem dX10_tells_4 : decode cX10_tells 4 = .ok (.iload_n 1, 1) := by decide +kernel
theorem dX10_tells_5 : decode cX10_tells 5 = .ok (.iaload, 1) := by decide +kernel
theorem dX10_tells_6 : decode cX10_tells 6 = .ok (.ldc_w 273, 3) := by decide +kernel
theorem dX10_tells_9 : decode cX10_tells 9 = .ok (.if_icmp .eq 32, 3) := by decide +kernel
theorem dX10_tells_12 : decode cX10_tells 12 = .ok (.iload_n 1, 1) := by decide +kernel
theorem dX10_tells_13 : decode cX10_tells 13 = .ok (.iconst 2, 1) := by decide +kernel
theorem dX10_tells_14 : decode cX10_tells 14 = .ok (.irem, 1) := by decide +kernel
theorem dX10_tells_15 : decode cX10_tells 15 = .ok (.ifCond .ne 16, 3) := by decide +kernel
theorem dX10_tells_18 : decode cX10_tells 18 = .ok (.iload_n 2, 1) := by decide +kernel
theorem dX10_tells_19 : decode cX10_tells 19 = .ok (.aload_n 0, 1) := by decide +kernel
theorem dX10_tells_20 : decode cX10_tells 20 = .ok (.getfield 98, 3) := by decide +kernel
theorem dX10_tells_23 : decode cX10_tells 23 = .ok (.iload_n 1, 1) := by decide +kernel
theorem dX10_tells_24 : decode cX10_tells 24 = .ok (.iaload, 1) := by decide +kernel
theorem dX10_tells_25 : decode cX10_tells 25 = .ok (.if_icmp .le 20, 3) := by decide +kernel
theorem dX10_tells_28 : decode cX10_tells 28 = .ok (.goto 13, 3) := by decide +kernel
theorem dX10_tells_31 : decode cX10_tells 31 = .ok (.iload_n 2, 1) := by decide +kernel
theorem dX10_tells_32 : decode cX10_tells 32 = .ok (.aload_n 0, 1) := by decide +kernel
theorem dX10_tells_33 : decode cX10_tells 33 = .ok (.getfield 98, 3) := by decide +kernel
theorem dX10_tells_36 : decode cX10_tells 36 = .ok (.iload_n 1, 1) := by decide +kernel
theorem dX10_tells_37 : decode cX10_tells 37 = .ok (.iaload, 1) := by decide +kernel
theorem dX10_tells_38 : decode cX10_tells 38 = .ok (.if_icmp .ge 7, 3) := by decide +kernel
theorem dX10_tells_41 : decode cX10_tells 41 = .ok (.iconst 1, 1) := by decide +kernel
theorem dX10_tells_42 : decode cX10_tells 42 = .ok (.goto 4, 3) := by decide +kernel
theorem dX10_tells_45 : decode cX10_tells 45 = .ok (.iconst 0, 1) := by decide +kernel
theorem dX10_tells_46 : decode cX10_tells 46 = .ok (.istore_n 3, 1) := by decide +kernel
theorem dX10_tells_47 : decode cX10_tells 47 = .ok (.iload_n 3, 1) := by decide +kernel
theorem dX10_tells_48 : decode cX10_tells 48 = .ok (.ifCond .ne 4, 3) := by decide +kernel
theorem dX10_tells_51 : decode cX10_tells 51 = .ok (.return_, 1) := by decide +kernel
theorem dX10_tells_52 : decode cX10_tells 52 = .ok (.aload_n 0, 1) := by decide +kernel
theorem dX10_tells_53 : decode cX10_tells 53 = .ok (.getfield 98, 3) := by decide +kernel
theorem dX10_tells_56 : decode cX10_tells 56 = .ok (.iload_n 1, 1) := by decide +kernel
theorem dX10_tells_57 : decode cX10_tells 57 = .ok (.iload_n 2, 1) := by decide +kernel
theorem dX10_tells_58 : decode cX10_tells 58 = .ok (.iastore, 1) := by decide +kernel
theorem dX10_tells_59 : decode cX10_tells 59 = .ok (.iload_n 1, 1) := by decide +kernel
theorem dX10_tells_60 : decode cX10_tells 60 = .ok (.ifCond .ne 13, 3) := by decide +kernel
theorem dX10_tells_63 : decode cX10_tells 63 = .ok (.aload_n 0, 1) := by decide +kernel
theorem dX10_tells_64 : decode cX10_tells 64 = .ok (.aload_n 0, 1) := by decide +kernel
theorem dX10_tells_65 : decode cX10_tells 65 = .ok (.getfield 95, 3) := by decide +kernel
theorem dX10_tells_68 : decode cX10_tells 68 = .ok (.iconst 0, 1) := by decide +kernel
theorem dX10_tells_69 : decode cX10_tells 69 = .ok (.iaload, 1) := by decide +kernel
theorem dX10_tells_70 : decode cX10_tells 70 = .ok (.putfield 366, 3) := by decide +kernel
theorem dX10_tells_73 : decode cX10_tells 73 = .ok (.return_, 1) := by decide +kernel
theorem dX10_endsAs_0 : decode cX10_endsAs 0 = .ok (.aload_n 0, 1) := by decide +kernel
theorem dX10_endsAs_1 : decode cX10_endsAs 1 = .ok (.aload_n 0, 1) := by decide +kernel
theorem dX10_endsAs_2 : decode cX10_endsAs 2 = .ok (.getfield 74, 3) := by decide +kernel
theorem dX10_endsAs_5 : decode cX10_endsAs 5 = .ok (.iload_n 1, 1) := by decide +kernel
theorem dX10_endsAs_6 : decode cX10_endsAs 6 = .ok (.iaload, 1) := by decide +kernel
theorem dX10_endsAs_7 : decode cX10_endsAs 7 = .ok (.aload_n 0, 1) := by decide +kernel
theorem dX10_endsAs_8 : decode cX10_endsAs 8 = .ok (.getfield 101, 3) := by decide +kernel
theorem dX10_endsAs_11 : decode cX10_endsAs 11 = .ok (.iload_n 3, 1) := by decide +kernel
theorem dX10_endsAs_12 : decode cX10_endsAs 12 = .ok (.iaload, 1) := by decide +kernel
theorem dX10_endsAs_13 : decode cX10_endsAs 13 = .ok (.invokevirtual 307, 3) := by decide +kernel
theorem dX10_endsAs_16 : decode cX10_endsAs 16 = .ok (.ifCond .eq 7, 3) := by decide +kernel
theorem dX10_endsAs_19 : decode cX10_endsAs 19 = .ok (.iconst 1, 1) := by decide +kernel
theorem dX10_endsAs_20 : decode cX10_endsAs 20 = .ok (.goto 4, 3) := by decide +kernel
theorem dX10_endsAs_23 : decode cX10_endsAs 23 = .ok (.iconst 0, 1) := by decide +kernel
theorem dX10_endsAs_24 : decode cX10_endsAs 24 = .ok (.aload_n 0, 1) := by decide +kernel
theorem dX10_endsAs_25 : decode cX10_endsAs 25 = .ok (.aload_n 0, 1) := by decide +kernel
theorem dX10_endsAs_26 : decode cX10_endsAs 26 = .ok (.getfield 74, 3) := by decide +kernel
theorem dX10_endsAs_29 : decode cX10_endsAs 29 = .ok (.iload_n 2, 1) := by decide +kernel
theorem dX10_endsAs_30 : decode cX10_endsAs 30 = .ok (.iaload, 1) := by decide +kernel
theorem dX10_endsAs_31 : decode cX10_endsAs 31 = .ok (.aload_n 0, 1) := by decide +kernel
theorem dX10_endsAs_32 : decode cX10_endsAs 32 = .ok (.getfield 104, 3) := by decide +kernel
theorem dX10_endsAs_35 : decode cX10_endsAs 35 = .ok (.iload_n 3, 1) := by decide +kernel
theorem dX10_endsAs_36 : decode cX10_endsAs 36 = .ok (.iaload, 1) := by decide +kernel
theorem dX10_endsAs_37 : decode cX10_endsAs 37 = .ok (.invokevirtual 307, 3) := by decide +kernel
theorem dX10_endsAs_40 : decode cX10_endsAs 40 = .ok (.ifCond .eq 7, 3) := by decide +kernel
theorem dX10_endsAs_43 : decode cX10_endsAs 43 = .ok (.iconst 1, 1) := by decide +kernel
theorem dX10_endsAs_44 : decode cX10_endsAs 44 = .ok (.goto 4, 3) := by decide +kernel
theorem dX10_endsAs_47 : decode cX10_endsAs 47 = .ok (.iconst 0, 1) := by decide +kernel
theorem dX10_endsAs_48 : decode cX10_endsAs 48 = .ok (.isub, 1) := by decide +kernel
theorem dX10_endsAs_49 : decode cX10_endsAs 49 = .ok (.ireturn, 1) := by decide +kernel
theorem dX10_plays_0 : decode cX10_plays 0 = .ok (.aload_n 0, 1) := by decide +kernel
theorem dX10_plays_1 : decode cX10_plays 1 = .ok (.getfield 101, 3) := by decide +kernel
theorem dX10_plays_4 : decode cX10_plays 4 = .ok (.iconst 0, 1) := by decide +kernel
theorem dX10_plays_5 : decode cX10_plays 5 = .ok (.aload_n 0, 1) := by decide +kernel
theorem dX10_plays_6 : decode cX10_plays 6 = .ok (.getfield 80, 3) := by decide +kernel
theorem dX10_plays_9 : decode cX10_plays 9 = .ok (.iload_n 1, 1) := by decide +kernel
theorem dX10_plays_10 : decode cX10_plays 10 = .ok (.iaload, 1) := by decide +kernel
theorem dX10_plays_11 : decode cX10_plays 11 = .ok (.iastore, 1) := by decide +kernel
theorem dX10_plays_12 : decode cX10_plays 12 = .ok (.aload_n 0, 1) := by decide +kernel
theorem dX10_plays_13 : decode cX10_plays 13 = .ok (.getfield 104, 3) := by decide +kernel
theorem dX10_plays_16 : decode cX10_plays 16 = .ok (.iconst 0, 1) := by decide +kernel
theorem dX10_plays_17 : decode cX10_plays 17 = .ok (.aload_n 0, 1) := by decide +kernel
theorem dX10_plays_18 : decode cX10_plays 18 = .ok (.getfield 80, 3) := by decide +kernel
theorem dX10_plays_21 : decode cX10_plays 21 = .ok (.iload_n 2, 1) := by decide +kernel
theorem dX10_plays_22 : decode cX10_plays 22 = .ok (.iaload, 1) := by decide +kernel
theorem dX10_plays_23 : decode cX10_plays 23 = .ok (.iastore, 1) := by decide +kernel
theorem dX10_plays_24 : decode cX10_plays 24 = .ok (.iconst 0, 1) := by decide +kernel
theorem dX10_plays_25 : decode cX10_plays 25 = .ok (.istore 4, 2) := by decide +kernel
theorem dX10_plays_27 : decode cX10_plays 27 = .ok (.aload_n 0, 1) := by decide +kernel
theorem dX10_plays_28 : decode cX10_plays 28 = .ok (.getfield 95, 3) := by decide +kernel
theorem dX10_plays_31 : decode cX10_plays 31 = .ok (.iconst 0, 1) := by decide +kernel
theorem dX10_plays_32 : decode cX10_plays 32 = .ok (.bipush (-2), 2) := by decide +kernel
theorem dX10_plays_34 : decode cX10_plays 34 = .ok (.iastore, 1) := by decide +kernel
theorem dX10_plays_35 : decode cX10_plays 35 = .ok (.aload_n 0, 1) := by decide +kernel
theorem dX10_plays_36 : decode cX10_plays 36 = .ok (.getfield 98, 3) := by decide +kernel
theorem dX10_plays_39 : decode cX10_plays 39 = .ok (.iconst 0, 1) := by decide +kernel
theorem dX10_plays_40 : decode cX10_plays 40 = .ok (.ldc_w 273, 3) := by decide +kernel
theorem dX10_plays_43 : decode cX10_plays 43 = .ok (.iastore, 1) := by decide +kernel
theorem dX10_plays_44 : decode cX10_plays 44 = .ok (.iload 4, 2) := by decide +kernel
theorem dX10_plays_46 : decode cX10_plays 46 = .ok (.ifCond .lt 133, 3) := by decide +kernel
theorem dX10_plays_49 : decode cX10_plays 49 = .ok (.aload_n 0, 1) := by decide +kernel
theorem dX10_plays_50 : decode cX10_plays 50 = .ok (.getfield 95, 3) := by decide +kernel
theorem dX10_plays_53 : decode cX10_plays 53 = .ok (.iload 4, 2) := by decide +kernel
theorem dX10_plays_55 : decode cX10_plays 55 = .ok (.aload_n 0, 1) := by decide +kernel
theorem dX10_plays_56 : decode cX10_plays 56 = .ok (.getfield 95, 3) := by decide +kernel
theorem dX10_plays_59 : decode cX10_plays 59 = .ok (.iload 4, 2) := by decide +kernel
theorem dX10_plays_61 : decode cX10_plays 61 = .ok (.iaload, 1) := by decide +kernel
theorem dX10_plays_62 : decode cX10_plays 62 = .ok (.iconst 1, 1) := by decide +kernel
theorem dX10_plays_63 : decode cX10_plays 63 = .ok (.iadd, 1) := by decide +kernel
theorem dX10_plays_64 : decode cX10_plays 64 = .ok (.iastore, 1) := by decide +kernel
theorem dX10_plays_65 : decode cX10_plays 65 = .ok (.aload_n 0, 1) := by decide +kernel
theorem dX10_plays_66 : decode cX10_plays 66 = .ok (.getfield 95, 3) := by decide +kernel
theorem dX10_plays_69 : decode cX10_plays 69 = .ok (.iload 4, 2) := by decide +kernel
theorem dX10_plays_71 : decode cX10_plays 71 = .ok (.iaload, 1) := by decide +kernel
theorem dX10_plays_72 : decode cX10_plays 72 = .ok (.aload_n 0, 1) := by decide +kernel
theorem dX10_plays_73 : decode cX10_plays 73 = .ok (.getfield 138, 3) := by decide +kernel
theorem dX10_plays_76 : decode cX10_plays 76 = .ok (.if_icmp .lt 32, 3) := by decide +kernel
theorem dX10_plays_79 : decode cX10_plays 79 = .ok (.iload 4, 2) := by decide +kernel
theorem dX10_plays_81 : decode cX10_plays 81 = .ok (.iconst 1, 1) := by decide +kernel
theorem dX10_plays_82 : decode cX10_plays 82 = .ok (.isub, 1) := by decide +kernel
theorem dX10_plays_83 : decode cX10_plays 83 = .ok (.istore 4, 2) := by decide +kernel
theorem dX10_plays_85 : decode cX10_plays 85 = .ok (.iload 4, 2) := by decide +kernel
theorem dX10_plays_87 : decode cX10_plays 87 = .ok (.ifCond .lt (-43), 3) := by decide +kernel
theorem dX10_plays_90 : decode cX10_plays 90 = .ok (.aload_n 0, 1) := by decide +kernel
theorem dX10_plays_91 : decode cX10_plays 91 = .ok (.iload 4, 2) := by decide +kernel
theorem dX10_plays_93 : decode cX10_plays 93 = .ok (.aload_n 0, 1) := by decide +kernel
theorem dX10_plays_94 : decode cX10_plays 94 = .ok (.getfield 98, 3) := by decide +kernel
theorem dX10_plays_97 : decode cX10_plays 97 = .ok (.iload 4, 2) := by decide +kernel
theorem dX10_plays_99 : decode cX10_plays 99 = .ok (.iconst 1, 1) := by decide +kernel
theorem dX10_plays_100 : decode cX10_plays 100 = .ok (.iadd, 1) := by decide +kernel
theorem dX10_plays_101 : decode cX10_plays 101 = .ok (.iaload, 1) := by decide +kernel
theorem dX10_plays_102 : decode cX10_plays 102 = .ok (.invokevirtual 369, 3) := by decide +kernel
theorem dX10_plays_105 : decode cX10_plays 105 = .ok (.goto (-61), 3) := by decide +kernel
theorem dX10_plays_108 : decode cX10_plays 108 = .ok (.aload_n 0, 1) := by decide +kernel
theorem dX10_plays_109 : decode cX10_plays 109 = .ok (.iload 4, 2) := by decide +kernel
theorem dX10_plays_111 : decode cX10_plays 111 = .ok (.aload_n 0, 1) := by decide +kernel
theorem dX10_plays_112 : decode cX10_plays 112 = .ok (.getfield 95, 3) := by decide +kernel
theorem dX10_plays_115 : decode cX10_plays 115 = .ok (.iload 4, 2) := by decide +kernel
theorem dX10_plays_117 : decode cX10_plays 117 = .ok (.iaload, 1) := by decide +kernel
theorem dX10_plays_118 : decode cX10_plays 118 = .ok (.invokevirtual 372, 3) := by decide +kernel
theorem dX10_plays_121 : decode cX10_plays 121 = .ok (.ifCond .ne 6, 3) := by decide +kernel
theorem dX10_plays_124 : decode cX10_plays 124 = .ok (.goto (-80), 3) := by decide +kernel
theorem dX10_plays_127 : decode cX10_plays 127 = .ok (.iload 4, 2) := by decide +kernel
theorem dX10_plays_129 : decode cX10_plays 129 = .ok (.iconst 1, 1) := by decide +kernel
theorem dX10_plays_130 : decode cX10_plays 130 = .ok (.iadd, 1) := by decide +kernel
theorem dX10_plays_131 : decode cX10_plays 131 = .ok (.iload_n 3, 1) := by decide +kernel
theorem dX10_plays_132 : decode cX10_plays 132 = .ok (.if_icmp .ne 19, 3) := by decide +kernel
theorem dX10_plays_135 : decode cX10_plays 135 = .ok (.aload_n 0, 1) := by decide +kernel
theorem dX10_plays_136 : decode cX10_plays 136 = .ok (.iload 4, 2) := by decide +kernel
theorem dX10_plays_138 : decode cX10_plays 138 = .ok (.aload_n 0, 1) := by decide +kernel
theorem dX10_plays_139 : decode cX10_plays 139 = .ok (.iload_n 1, 1) := by decide +kernel
theorem dX10_plays_140 : decode cX10_plays 140 = .ok (.iload_n 2, 1) := by decide +kernel
theorem dX10_plays_141 : decode cX10_plays 141 = .ok (.iload_n 3, 1) := by decide +kernel
theorem dX10_plays_142 : decode cX10_plays 142 = .ok (.invokevirtual 375, 3) := by decide +kernel
theorem dX10_plays_145 : decode cX10_plays 145 = .ok (.invokevirtual 369, 3) := by decide +kernel
theorem dX10_plays_148 : decode cX10_plays 148 = .ok (.goto (-104), 3) := by decide +kernel
theorem dX10_plays_151 : decode cX10_plays 151 = .ok (.iload 4, 2) := by decide +kernel
theorem dX10_plays_153 : decode cX10_plays 153 = .ok (.iconst 1, 1) := by decide +kernel
theorem dX10_plays_154 : decode cX10_plays 154 = .ok (.iadd, 1) := by decide +kernel
theorem dX10_plays_155 : decode cX10_plays 155 = .ok (.istore 4, 2) := by decide +kernel
theorem dX10_plays_157 : decode cX10_plays 157 = .ok (.aload_n 0, 1) := by decide +kernel
theorem dX10_plays_158 : decode cX10_plays 158 = .ok (.getfield 95, 3) := by decide +kernel
theorem dX10_plays_161 : decode cX10_plays 161 = .ok (.iload 4, 2) := by decide +kernel
theorem dX10_plays_163 : decode cX10_plays 163 = .ok (.bipush (-2), 2) := by decide +kernel
theorem dX10_plays_165 : decode cX10_plays 165 = .ok (.iastore, 1) := by decide +kernel
theorem dX10_plays_166 : decode cX10_plays 166 = .ok (.aload_n 0, 1) := by decide +kernel
theorem dX10_plays_167 : decode cX10_plays 167 = .ok (.getfield 98, 3) := by decide +kernel
theorem dX10_plays_170 : decode cX10_plays 170 = .ok (.iload 4, 2) := by decide +kernel
theorem dX10_plays_172 : decode cX10_plays 172 = .ok (.ldc_w 273, 3) := by decide +kernel
theorem dX10_plays_175 : decode cX10_plays 175 = .ok (.iastore, 1) := by decide +kernel
theorem dX10_plays_176 : decode cX10_plays 176 = .ok (.goto (-132), 3) := by decide +kernel
theorem dX10_plays_179 : decode cX10_plays 179 = .ok (.return_, 1) := by decide +kernel
theorem dX10_against_0 : decode cX10_against 0 = .ok (.aload_n 0, 1) := by decide +kernel
theorem dX10_against_1 : decode cX10_against 1 = .ok (.iload_n 1, 1) := by decide +kernel
theorem dX10_against_2 : decode cX10_against 2 = .ok (.invokevirtual 292, 3) := by decide +kernel
theorem dX10_against_5 : decode cX10_against 5 = .ok (.ifCond .eq 35, 3) := by decide +kernel
theorem dX10_against_8 : decode cX10_against 8 = .ok (.aload_n 0, 1) := by decide +kernel
theorem dX10_against_9 : decode cX10_against 9 = .ok (.iload_n 2, 1) := by decide +kernel
theorem dX10_against_10 : decode cX10_against 10 = .ok (.invokevirtual 292, 3) := by decide +kernel
theorem dX10_against_13 : decode cX10_against 13 = .ok (.ifCond .eq 27, 3) := by decide +kernel
theorem dX10_against_16 : decode cX10_against 16 = .ok (.iload_n 1, 1) := by decide +kernel
theorem dX10_against_17 : decode cX10_against 17 = .ok (.iload_n 2, 1) := by decide +kernel
theorem dX10_against_18 : decode cX10_against 18 = .ok (.if_icmp .eq 22, 3) := by decide +kernel
theorem dX10_against_21 : decode cX10_against 21 = .ok (.iload_n 3, 1) := by decide +kernel
theorem dX10_against_22 : decode cX10_against 22 = .ok (.iconst 1, 1) := by decide +kernel
theorem dX10_against_23 : decode cX10_against 23 = .ok (.iconst 4, 1) := by decide +kernel
theorem dX10_against_24 : decode cX10_against 24 = .ok (.invokestatic 152, 3) := by decide +kernel
theorem dX10_against_27 : decode cX10_against 27 = .ok (.ifCond .eq 13, 3) := by decide +kernel
theorem dX10_against_30 : decode cX10_against 30 = .ok (.iload 4, 2) := by decide +kernel
theorem dX10_against_32 : decode cX10_against 32 = .ok (.iconst 0, 1) := by decide +kernel
theorem dX10_against_33 : decode cX10_against 33 = .ok (.iconst 1, 1) := by decide +kernel
theorem dX10_against_34 : decode cX10_against 34 = .ok (.invokestatic 152, 3) := by decide +kernel
theorem dX10_against_37 : decode cX10_against 37 = .ok (.ifCond .ne 7, 3) := by decide +kernel
theorem dX10_against_40 : decode cX10_against 40 = .ok (.sipush (-1000), 3) := by decide +kernel
theorem dX10_against_43 : decode cX10_against 43 = .ok (.ireturn, 1) := by decide +kernel
theorem dX10_against_44 : decode cX10_against 44 = .ok (.aload_n 0, 1) := by decide +kernel
theorem dX10_against_45 : decode cX10_against 45 = .ok (.iconst 0, 1) := by decide +kernel
theorem dX10_against_46 : decode cX10_against 46 = .ok (.invokevirtual 295, 3) := by decide +kernel
theorem dX10_against_49 : decode cX10_against 49 = .ok (.aload_n 0, 1) := by decide +kernel
theorem dX10_against_50 : decode cX10_against 50 = .ok (.iload_n 1, 1) := by decide +kernel
theorem dX10_against_51 : decode cX10_against 51 = .ok (.iload_n 2, 1) := by decide +kernel
theorem dX10_against_52 : decode cX10_against 52 = .ok (.iload_n 3, 1) := by decide +kernel
theorem dX10_against_53 : decode cX10_against 53 = .ok (.invokevirtual 378, 3) := by decide +kernel
theorem dX10_against_56 : decode cX10_against 56 = .ok (.iload 4, 2) := by decide +kernel
theorem dX10_against_58 : decode cX10_against 58 = .ok (.ifCond .ne 12, 3) := by decide +kernel
theorem dX10_against_61 : decode cX10_against 61 = .ok (.aload_n 0, 1) := by decide +kernel
theorem dX10_against_62 : decode cX10_against 62 = .ok (.getfield 98, 3) := by decide +kernel
theorem dX10_against_65 : decode cX10_against 65 = .ok (.iconst 0, 1) := by decide +kernel
theorem dX10_against_66 : decode cX10_against 66 = .ok (.iaload, 1) := by decide +kernel
theorem dX10_against_67 : decode cX10_against 67 = .ok (.goto 20, 3) := by decide +kernel
theorem dX10_against_70 : decode cX10_against 70 = .ok (.aload_n 0, 1) := by decide +kernel
theorem dX10_against_71 : decode cX10_against 71 = .ok (.getfield 366, 3) := by decide +kernel
theorem dX10_against_74 : decode cX10_against 74 = .ok (.iconst (-1), 1) := by decide +kernel
theorem dX10_against_75 : decode cX10_against 75 = .ok (.if_icmp .ne 8, 3) := by decide +kernel
theorem dX10_against_78 : decode cX10_against 78 = .ok (.bipush (-2), 2) := by decide +kernel
theorem dX10_against_80 : decode cX10_against 80 = .ok (.goto 7, 3) := by decide +kernel
theorem dX10_against_83 : decode cX10_against 83 = .ok (.aload_n 0, 1) := by decide +kernel
theorem dX10_against_84 : decode cX10_against 84 = .ok (.getfield 366, 3) := by decide +kernel
theorem dX10_against_87 : decode cX10_against 87 = .ok (.ireturn, 1) := by decide +kernel
theorem dX10_joined_0 : decode cX10_joined 0 = .ok (.iload_n 1, 1) := by decide +kernel
theorem dX10_joined_1 : decode cX10_joined 1 = .ok (.istore_n 3, 1) := by decide +kernel
theorem dX10_joined_2 : decode cX10_joined 2 = .ok (.iconst 1, 1) := by decide +kernel
theorem dX10_joined_3 : decode cX10_joined 3 = .ok (.istore 4, 2) := by decide +kernel
theorem dX10_joined_5 : decode cX10_joined 5 = .ok (.iload 4, 2) := by decide +kernel
theorem dX10_joined_7 : decode cX10_joined 7 = .ok (.ifCond .eq 71, 3) := by decide +kernel
theorem dX10_joined_10 : decode cX10_joined 10 = .ok (.iconst 0, 1) := by decide +kernel
theorem dX10_joined_11 : decode cX10_joined 11 = .ok (.istore 4, 2) := by decide +kernel
theorem dX10_joined_13 : decode cX10_joined 13 = .ok (.iconst 0, 1) := by decide +kernel
theorem dX10_joined_14 : decode cX10_joined 14 = .ok (.istore 5, 2) := by decide +kernel
theorem dX10_joined_16 : decode cX10_joined 16 = .ok (.iload 5, 2) := by decide +kernel
theorem dX10_joined_18 : decode cX10_joined 18 = .ok (.aload_n 0, 1) := by decide +kernel
theorem dX10_joined_19 : decode cX10_joined 19 = .ok (.getfield 138, 3) := by decide +kernel
theorem dX10_joined_22 : decode cX10_joined 22 = .ok (.if_icmp .ge 53, 3) := by decide +kernel
theorem dX10_joined_25 : decode cX10_joined 25 = .ok (.iload_n 2, 1) := by decide +kernel
theorem dX10_joined_26 : decode cX10_joined 26 = .ok (.iload 5, 2) := by decide +kernel
theorem dX10_joined_28 : decode cX10_joined 28 = .ok (.invokestatic 148, 3) := by decide +kernel
theorem dX10_joined_31 : decode cX10_joined 31 = .ok (.ifCond .eq 38, 3) := by decide +kernel
theorem dX10_joined_34 : decode cX10_joined 34 = .ok (.iload_n 3, 1) := by decide +kernel
theorem dX10_joined_35 : decode cX10_joined 35 = .ok (.iload 5, 2) := by decide +kernel
theorem dX10_joined_37 : decode cX10_joined 37 = .ok (.invokestatic 148, 3) := by decide +kernel
theorem dX10_joined_40 : decode cX10_joined 40 = .ok (.ifCond .ne 29, 3) := by decide +kernel
theorem dX10_joined_43 : decode cX10_joined 43 = .ok (.aload_n 0, 1) := by decide +kernel
theorem dX10_joined_44 : decode cX10_joined 44 = .ok (.iload_n 3, 1) := by decide +kernel
theorem dX10_joined_45 : decode cX10_joined 45 = .ok (.iload 5, 2) := by decide +kernel
theorem dX10_joined_47 : decode cX10_joined 47 = .ok (.invokevirtual 298, 3) := by decide +kernel
theorem dX10_joined_50 : decode cX10_joined 50 = .ok (.ldc_w 273, 3) := by decide +kernel
theorem dX10_joined_53 : decode cX10_joined 53 = .ok (.if_icmp .ne 6, 3) := by decide +kernel
theorem dX10_joined_56 : decode cX10_joined 56 = .ok (.goto 13, 3) := by decide +kernel
theorem dX10_joined_59 : decode cX10_joined 59 = .ok (.iload_n 3, 1) := by decide +kernel
theorem dX10_joined_60 : decode cX10_joined 60 = .ok (.iconst 1, 1) := by decide +kernel
theorem dX10_joined_61 : decode cX10_joined 61 = .ok (.iload 5, 2) := by decide +kernel
theorem dX10_joined_63 : decode cX10_joined 63 = .ok (.ishl, 1) := by decide +kernel
theorem dX10_joined_64 : decode cX10_joined 64 = .ok (.ior, 1) := by decide +kernel
theorem dX10_joined_65 : decode cX10_joined 65 = .ok (.istore_n 3, 1) := by decide +kernel
theorem dX10_joined_66 : decode cX10_joined 66 = .ok (.iconst 1, 1) := by decide +kernel
theorem dX10_joined_67 : decode cX10_joined 67 = .ok (.istore 4, 2) := by decide +kernel
theorem dX10_joined_69 : decode cX10_joined 69 = .ok (.iinc 5 1, 3) := by decide +kernel
theorem dX10_joined_72 : decode cX10_joined 72 = .ok (.goto (-56), 3) := by decide +kernel
theorem dX10_joined_75 : decode cX10_joined 75 = .ok (.goto (-70), 3) := by decide +kernel
theorem dX10_joined_78 : decode cX10_joined 78 = .ok (.iload_n 3, 1) := by decide +kernel
theorem dX10_joined_79 : decode cX10_joined 79 = .ok (.ireturn, 1) := by decide +kernel
theorem dX10_heldBy_0 : decode cX10_heldBy 0 = .ok (.iconst 0, 1) := by decide +kernel
theorem dX10_heldBy_1 : decode cX10_heldBy 1 = .ok (.istore_n 2, 1) := by decide +kernel
theorem dX10_heldBy_2 : decode cX10_heldBy 2 = .ok (.iconst 0, 1) := by decide +kernel
theorem dX10_heldBy_3 : decode cX10_heldBy 3 = .ok (.istore_n 3, 1) := by decide +kernel
theorem dX10_heldBy_4 : decode cX10_heldBy 4 = .ok (.iload_n 3, 1) := by decide +kernel
theorem dX10_heldBy_5 : decode cX10_heldBy 5 = .ok (.aload_n 0, 1) := by decide +kernel
theorem dX10_heldBy_6 : decode cX10_heldBy 6 = .ok (.getfield 286, 3) := by decide +kernel
theorem dX10_heldBy_9 : decode cX10_heldBy 9 = .ok (.if_icmp .ge 41, 3) := by decide +kernel
theorem dX10_heldBy_12 : decode cX10_heldBy 12 = .ok (.iload_n 2, 1) := by decide +kernel
theorem dX10_heldBy_13 : decode cX10_heldBy 13 = .ok (.aload_n 0, 1) := by decide +kernel
theorem dX10_heldBy_14 : decode cX10_heldBy 14 = .ok (.aload_n 0, 1) := by decide +kernel
theorem dX10_heldBy_15 : decode cX10_heldBy 15 = .ok (.getfield 74, 3) := by decide +kernel
theorem dX10_heldBy_18 : decode cX10_heldBy 18 = .ok (.iload_n 3, 1) := by decide +kernel
theorem dX10_heldBy_19 : decode cX10_heldBy 19 = .ok (.iaload, 1) := by decide +kernel
theorem dX10_heldBy_20 : decode cX10_heldBy 20 = .ok (.aload_n 0, 1) := by decide +kernel
theorem dX10_heldBy_21 : decode cX10_heldBy 21 = .ok (.aload_n 0, 1) := by decide +kernel
theorem dX10_heldBy_22 : decode cX10_heldBy 22 = .ok (.getfield 80, 3) := by decide +kernel
theorem dX10_heldBy_25 : decode cX10_heldBy 25 = .ok (.iload_n 3, 1) := by decide +kernel
theorem dX10_heldBy_26 : decode cX10_heldBy 26 = .ok (.iaload, 1) := by decide +kernel
theorem dX10_heldBy_27 : decode cX10_heldBy 27 = .ok (.iload_n 1, 1) := by decide +kernel
theorem dX10_heldBy_28 : decode cX10_heldBy 28 = .ok (.invokevirtual 382, 3) := by decide +kernel
theorem dX10_heldBy_31 : decode cX10_heldBy 31 = .ok (.invokevirtual 307, 3) := by decide +kernel
theorem dX10_heldBy_34 : decode cX10_heldBy 34 = .ok (.ifCond .eq 7, 3) := by decide +kernel
theorem dX10_heldBy_37 : decode cX10_heldBy 37 = .ok (.iconst 1, 1) := by decide +kernel
theorem dX10_heldBy_38 : decode cX10_heldBy 38 = .ok (.goto 4, 3) := by decide +kernel
theorem dX10_heldBy_41 : decode cX10_heldBy 41 = .ok (.iconst 0, 1) := by decide +kernel
theorem dX10_heldBy_42 : decode cX10_heldBy 42 = .ok (.iadd, 1) := by decide +kernel
theorem dX10_heldBy_43 : decode cX10_heldBy 43 = .ok (.istore_n 2, 1) := by decide +kernel
theorem dX10_heldBy_44 : decode cX10_heldBy 44 = .ok (.iinc 3 1, 3) := by decide +kernel
theorem dX10_heldBy_47 : decode cX10_heldBy 47 = .ok (.goto (-43), 3) := by decide +kernel
theorem dX10_heldBy_50 : decode cX10_heldBy 50 = .ok (.iload_n 2, 1) := by decide +kernel
theorem dX10_heldBy_51 : decode cX10_heldBy 51 = .ok (.ireturn, 1) := by decide +kernel
theorem dX10_whom_0 : decode cX10_whom 0 = .ok (.iload_n 1, 1) := by decide +kernel
theorem dX10_whom_1 : decode cX10_whom 1 = .ok (.iconst 1, 1) := by decide +kernel
theorem dX10_whom_2 : decode cX10_whom 2 = .ok (.if_icmp .lt 49, 3) := by decide +kernel
theorem dX10_whom_5 : decode cX10_whom 5 = .ok (.iload_n 1, 1) := by decide +kernel
theorem dX10_whom_6 : decode cX10_whom 6 = .ok (.aload_n 0, 1) := by decide +kernel
theorem dX10_whom_7 : decode cX10_whom 7 = .ok (.getfield 145, 3) := by decide +kernel
theorem dX10_whom_10 : decode cX10_whom 10 = .ok (.iconst (-1), 1) := by decide +kernel
theorem dX10_whom_11 : decode cX10_whom 11 = .ok (.ixor, 1) := by decide +kernel
theorem dX10_whom_12 : decode cX10_whom 12 = .ok (.iand, 1) := by decide +kernel
theorem dX10_whom_13 : decode cX10_whom 13 = .ok (.ifCond .ne 38, 3) := by decide +kernel
theorem dX10_whom_16 : decode cX10_whom 16 = .ok (.iload_n 1, 1) := by decide +kernel
theorem dX10_whom_17 : decode cX10_whom 17 = .ok (.invokestatic 313, 3) := by decide +kernel
theorem dX10_whom_20 : decode cX10_whom 20 = .ok (.bipush 8, 2) := by decide +kernel
theorem dX10_whom_22 : decode cX10_whom 22 = .ok (.if_icmp .gt 29, 3) := by decide +kernel
theorem dX10_whom_25 : decode cX10_whom 25 = .ok (.iload_n 2, 1) := by decide +kernel
theorem dX10_whom_26 : decode cX10_whom 26 = .ok (.iconst 1, 1) := by decide +kernel
theorem dX10_whom_27 : decode cX10_whom 27 = .ok (.iconst 4, 1) := by decide +kernel
theorem dX10_whom_28 : decode cX10_whom 28 = .ok (.invokestatic 152, 3) := by decide +kernel
theorem dX10_whom_31 : decode cX10_whom 31 = .ok (.ifCond .eq 20, 3) := by decide +kernel
theorem dX10_whom_34 : decode cX10_whom 34 = .ok (.iload_n 1, 1) := by decide +kernel
theorem dX10_whom_35 : decode cX10_whom 35 = .ok (.invokestatic 313, 3) := by decide +kernel
theorem dX10_whom_38 : decode cX10_whom 38 = .ok (.iload_n 2, 1) := by decide +kernel
theorem dX10_whom_39 : decode cX10_whom 39 = .ok (.if_icmp .lt 12, 3) := by decide +kernel
theorem dX10_whom_42 : decode cX10_whom 42 = .ok (.iload_n 3, 1) := by decide +kernel
theorem dX10_whom_43 : decode cX10_whom 43 = .ok (.iconst 0, 1) := by decide +kernel
theorem dX10_whom_44 : decode cX10_whom 44 = .ok (.iconst 1, 1) := by decide +kernel
theorem dX10_whom_45 : decode cX10_whom 45 = .ok (.invokestatic 152, 3) := by decide +kernel
theorem dX10_whom_48 : decode cX10_whom 48 = .ok (.ifCond .ne 5, 3) := by decide +kernel
theorem dX10_whom_51 : decode cX10_whom 51 = .ok (.iconst (-1), 1) := by decide +kernel
theorem dX10_whom_52 : decode cX10_whom 52 = .ok (.ireturn, 1) := by decide +kernel
theorem dX10_whom_53 : decode cX10_whom 53 = .ok (.aload_n 0, 1) := by decide +kernel
theorem dX10_whom_54 : decode cX10_whom 54 = .ok (.iconst 0, 1) := by decide +kernel
theorem dX10_whom_55 : decode cX10_whom 55 = .ok (.invokevirtual 295, 3) := by decide +kernel
theorem dX10_whom_58 : decode cX10_whom 58 = .ok (.iconst 0, 1) := by decide +kernel
theorem dX10_whom_59 : decode cX10_whom 59 = .ok (.istore 4, 2) := by decide +kernel
theorem dX10_whom_61 : decode cX10_whom 61 = .ok (.iconst (-1), 1) := by decide +kernel
theorem dX10_whom_62 : decode cX10_whom 62 = .ok (.istore 5, 2) := by decide +kernel
theorem dX10_whom_64 : decode cX10_whom 64 = .ok (.iconst 1, 1) := by decide +kernel
theorem dX10_whom_65 : decode cX10_whom 65 = .ok (.istore 6, 2) := by decide +kernel
theorem dX10_whom_67 : decode cX10_whom 67 = .ok (.iload 6, 2) := by decide +kernel
theorem dX10_whom_69 : decode cX10_whom 69 = .ok (.iload_n 1, 1) := by decide +kernel
theorem dX10_whom_70 : decode cX10_whom 70 = .ok (.if_icmp .gt 56, 3) := by decide +kernel
theorem dX10_whom_73 : decode cX10_whom 73 = .ok (.iload 6, 2) := by decide +kernel
theorem dX10_whom_75 : decode cX10_whom 75 = .ok (.iload_n 1, 1) := by decide +kernel
theorem dX10_whom_76 : decode cX10_whom 76 = .ok (.iconst (-1), 1) := by decide +kernel
theorem dX10_whom_77 : decode cX10_whom 77 = .ok (.ixor, 1) := by decide +kernel
theorem dX10_whom_78 : decode cX10_whom 78 = .ok (.iand, 1) := by decide +kernel
theorem dX10_whom_79 : decode cX10_whom 79 = .ok (.ifCond .ne 41, 3) := by decide +kernel
theorem dX10_whom_82 : decode cX10_whom 82 = .ok (.iload 6, 2) := by decide +kernel
theorem dX10_whom_84 : decode cX10_whom 84 = .ok (.invokestatic 313, 3) := by decide +kernel
theorem dX10_whom_87 : decode cX10_whom 87 = .ok (.iload_n 2, 1) := by decide +kernel
theorem dX10_whom_88 : decode cX10_whom 88 = .ok (.if_icmp .eq 6, 3) := by decide +kernel
theorem dX10_whom_91 : decode cX10_whom 91 = .ok (.goto 29, 3) := by decide +kernel
theorem dX10_whom_94 : decode cX10_whom 94 = .ok (.aload_n 0, 1) := by decide +kernel
theorem dX10_whom_95 : decode cX10_whom 95 = .ok (.iload 6, 2) := by decide +kernel
theorem dX10_whom_97 : decode cX10_whom 97 = .ok (.invokevirtual 385, 3) := by decide +kernel
theorem dX10_whom_100 : decode cX10_whom 100 = .ok (.istore 7, 2) := by decide +kernel
theorem dX10_whom_102 : decode cX10_whom 102 = .ok (.iload 7, 2) := by decide +kernel
theorem dX10_whom_104 : decode cX10_whom 104 = .ok (.iload 5, 2) := by decide +kernel
theorem dX10_whom_106 : decode cX10_whom 106 = .ok (.if_icmp .gt 6, 3) := by decide +kernel
theorem dX10_whom_109 : decode cX10_whom 109 = .ok (.goto 11, 3) := by decide +kernel
theorem dX10_whom_112 : decode cX10_whom 112 = .ok (.iload 7, 2) := by decide +kernel
theorem dX10_whom_114 : decode cX10_whom 114 = .ok (.istore 5, 2) := by decide +kernel
theorem dX10_whom_116 : decode cX10_whom 116 = .ok (.iload 6, 2) := by decide +kernel
theorem dX10_whom_118 : decode cX10_whom 118 = .ok (.istore 4, 2) := by decide +kernel
theorem dX10_whom_120 : decode cX10_whom 120 = .ok (.iinc 6 1, 3) := by decide +kernel
theorem dX10_whom_123 : decode cX10_whom 123 = .ok (.goto (-56), 3) := by decide +kernel
theorem dX10_whom_126 : decode cX10_whom 126 = .ok (.iload_n 3, 1) := by decide +kernel
theorem dX10_whom_127 : decode cX10_whom 127 = .ok (.ifCond .ne 8, 3) := by decide +kernel
theorem dX10_whom_130 : decode cX10_whom 130 = .ok (.iload 5, 2) := by decide +kernel
theorem dX10_whom_132 : decode cX10_whom 132 = .ok (.goto 5, 3) := by decide +kernel
theorem dX10_whom_135 : decode cX10_whom 135 = .ok (.iload 4, 2) := by decide +kernel
theorem dX10_whom_137 : decode cX10_whom 137 = .ok (.ireturn, 1) := by decide +kernel
theorem dX10_sure_0 : decode cX10_sure 0 = .ok (.aload_n 0, 1) := by decide +kernel
theorem dX10_sure_1 : decode cX10_sure 1 = .ok (.iload_n 1, 1) := by decide +kernel
theorem dX10_sure_2 : decode cX10_sure 2 = .ok (.invokevirtual 292, 3) := by decide +kernel
theorem dX10_sure_5 : decode cX10_sure 5 = .ok (.ifCond .ne 5, 3) := by decide +kernel
theorem dX10_sure_8 : decode cX10_sure 8 = .ok (.iconst (-1), 1) := by decide +kernel
theorem dX10_sure_9 : decode cX10_sure 9 = .ok (.ireturn, 1) := by decide +kernel
theorem dX10_sure_10 : decode cX10_sure 10 = .ok (.aload_n 0, 1) := by decide +kernel
theorem dX10_sure_11 : decode cX10_sure 11 = .ok (.iconst 0, 1) := by decide +kernel
theorem dX10_sure_12 : decode cX10_sure 12 = .ok (.invokevirtual 295, 3) := by decide +kernel
theorem dX10_sure_15 : decode cX10_sure 15 = .ok (.aload_n 0, 1) := by decide +kernel
theorem dX10_sure_16 : decode cX10_sure 16 = .ok (.iload_n 1, 1) := by decide +kernel
theorem dX10_sure_17 : decode cX10_sure 17 = .ok (.invokevirtual 310, 3) := by decide +kernel
theorem dX10_sure_20 : decode cX10_sure 20 = .ok (.ifCond .eq 27, 3) := by decide +kernel
theorem dX10_sure_23 : decode cX10_sure 23 = .ok (.aload_n 0, 1) := by decide +kernel
theorem dX10_sure_24 : decode cX10_sure 24 = .ok (.aload_n 0, 1) := by decide +kernel
theorem dX10_sure_25 : decode cX10_sure 25 = .ok (.getfield 74, 3) := by decide +kernel
theorem dX10_sure_28 : decode cX10_sure 28 = .ok (.iload_n 1, 1) := by decide +kernel
theorem dX10_sure_29 : decode cX10_sure 29 = .ok (.iaload, 1) := by decide +kernel
theorem dX10_sure_30 : decode cX10_sure 30 = .ok (.aload_n 0, 1) := by decide +kernel
theorem dX10_sure_31 : decode cX10_sure 31 = .ok (.getfield 80, 3) := by decide +kernel
theorem dX10_sure_34 : decode cX10_sure 34 = .ok (.iload_n 1, 1) := by decide +kernel
theorem dX10_sure_35 : decode cX10_sure 35 = .ok (.iaload, 1) := by decide +kernel
theorem dX10_sure_36 : decode cX10_sure 36 = .ok (.iconst 1, 1) := by decide +kernel
theorem dX10_sure_37 : decode cX10_sure 37 = .ok (.invokevirtual 363, 3) := by decide +kernel
theorem dX10_sure_40 : decode cX10_sure 40 = .ok (.ifCond .eq 7, 3) := by decide +kernel
theorem dX10_sure_43 : decode cX10_sure 43 = .ok (.iconst 1, 1) := by decide +kernel
theorem dX10_sure_44 : decode cX10_sure 44 = .ok (.goto 4, 3) := by decide +kernel
theorem dX10_sure_47 : decode cX10_sure 47 = .ok (.iconst 0, 1) := by decide +kernel
theorem dX10_sure_48 : decode cX10_sure 48 = .ok (.ireturn, 1) := by decide +kernel
theorem dX10_found_0 : decode cX10_found 0 = .ok (.iload_n 1, 1) := by decide +kernel
theorem dX10_found_1 : decode cX10_found 1 = .ok (.iconst 1, 1) := by decide +kernel
theorem dX10_found_2 : decode cX10_found 2 = .ok (.if_icmp .lt 22, 3) := by decide +kernel
theorem dX10_found_5 : decode cX10_found 5 = .ok (.iload_n 1, 1) := by decide +kernel
theorem dX10_found_6 : decode cX10_found 6 = .ok (.iconst 1, 1) := by decide +kernel
theorem dX10_found_7 : decode cX10_found 7 = .ok (.aload_n 0, 1) := by decide +kernel
theorem dX10_found_8 : decode cX10_found 8 = .ok (.getfield 286, 3) := by decide +kernel
theorem dX10_found_11 : decode cX10_found 11 = .ok (.ishl, 1) := by decide +kernel
theorem dX10_found_12 : decode cX10_found 12 = .ok (.if_icmp .ge 12, 3) := by decide +kernel
theorem dX10_found_15 : decode cX10_found 15 = .ok (.aload_n 0, 1) := by decide +kernel
theorem dX10_found_16 : decode cX10_found 16 = .ok (.getfield 388, 3) := by decide +kernel
theorem dX10_found_19 : decode cX10_found 19 = .ok (.bipush 12, 2) := by decide +kernel
theorem dX10_found_21 : decode cX10_found 21 = .ok (.if_icmp .ne 5, 3) := by decide +kernel
theorem dX10_found_24 : decode cX10_found 24 = .ok (.iconst (-1), 1) := by decide +kernel
theorem dX10_found_25 : decode cX10_found 25 = .ok (.ireturn, 1) := by decide +kernel
theorem dX10_found_26 : decode cX10_found 26 = .ok (.aload_n 0, 1) := by decide +kernel
theorem dX10_found_27 : decode cX10_found 27 = .ok (.getfield 107, 3) := by decide +kernel
theorem dX10_found_30 : decode cX10_found 30 = .ok (.aload_n 0, 1) := by decide +kernel
theorem dX10_found_31 : decode cX10_found 31 = .ok (.getfield 388, 3) := by decide +kernel
theorem dX10_found_34 : decode cX10_found 34 = .ok (.iload_n 1, 1) := by decide +kernel
theorem dX10_found_35 : decode cX10_found 35 = .ok (.iastore, 1) := by decide +kernel
theorem dX10_found_36 : decode cX10_found 36 = .ok (.aload_n 0, 1) := by decide +kernel
theorem dX10_found_37 : decode cX10_found 37 = .ok (.aload_n 0, 1) := by decide +kernel
theorem dX10_found_38 : decode cX10_found 38 = .ok (.getfield 388, 3) := by decide +kernel
theorem dX10_found_41 : decode cX10_found 41 = .ok (.iconst 1, 1) := by decide +kernel
theorem dX10_found_42 : decode cX10_found 42 = .ok (.iadd, 1) := by decide +kernel
theorem dX10_found_43 : decode cX10_found 43 = .ok (.putfield 388, 3) := by decide +kernel
theorem dX10_found_46 : decode cX10_found 46 = .ok (.aload_n 0, 1) := by decide +kernel
theorem dX10_found_47 : decode cX10_found 47 = .ok (.getfield 388, 3) := by decide +kernel
theorem dX10_found_50 : decode cX10_found 50 = .ok (.ireturn, 1) := by decide +kernel
theorem dX10_explains_0 : decode cX10_explains 0 = .ok (.iconst 0, 1) := by decide +kernel
theorem dX10_explains_1 : decode cX10_explains 1 = .ok (.istore_n 2, 1) := by decide +kernel
theorem dX10_explains_2 : decode cX10_explains 2 = .ok (.iload_n 2, 1) := by decide +kernel
theorem dX10_explains_3 : decode cX10_explains 3 = .ok (.aload_n 0, 1) := by decide +kernel
theorem dX10_explains_4 : decode cX10_explains 4 = .ok (.getfield 388, 3) := by decide +kernel
theorem dX10_explains_7 : decode cX10_explains 7 = .ok (.if_icmp .ge 22, 3) := by decide +kernel
theorem dX10_explains_10 : decode cX10_explains 10 = .ok (.aload_n 0, 1) := by decide +kernel
theorem dX10_explains_11 : decode cX10_explains 11 = .ok (.getfield 107, 3) := by decide +kernel
theorem dX10_explains_14 : decode cX10_explains 14 = .ok (.iload_n 2, 1) := by decide +kernel
theorem dX10_explains_15 : decode cX10_explains 15 = .ok (.iaload, 1) := by decide +kernel
theorem dX10_explains_16 : decode cX10_explains 16 = .ok (.iload_n 1, 1) := by decide +kernel
theorem dX10_explains_17 : decode cX10_explains 17 = .ok (.iand, 1) := by decide +kernel
theorem dX10_explains_18 : decode cX10_explains 18 = .ok (.ifCond .ne 5, 3) := by decide +kernel
theorem dX10_explains_21 : decode cX10_explains 21 = .ok (.iconst 0, 1) := by decide +kernel
theorem dX10_explains_22 : decode cX10_explains 22 = .ok (.ireturn, 1) := by decide +kernel
theorem dX10_explains_23 : decode cX10_explains 23 = .ok (.iinc 2 1, 3) := by decide +kernel
theorem dX10_explains_26 : decode cX10_explains 26 = .ok (.goto (-24), 3) := by decide +kernel
theorem dX10_explains_29 : decode cX10_explains 29 = .ok (.iconst 1, 1) := by decide +kernel
theorem dX10_explains_30 : decode cX10_explains 30 = .ok (.ireturn, 1) := by decide +kernel
theorem dX10_least_0 : decode cX10_least 0 = .ok (.iconst (-1), 1) := by decide +kernel
theorem dX10_least_1 : decode cX10_least 1 = .ok (.istore_n 1, 1) := by decide +kernel
theorem dX10_least_2 : decode cX10_least 2 = .ok (.iconst 0, 1) := by decide +kernel
theorem dX10_least_3 : decode cX10_least 3 = .ok (.istore_n 2, 1) := by decide +kernel
theorem dX10_least_4 : decode cX10_least 4 = .ok (.iload_n 2, 1) := by decide +kernel
theorem dX10_least_5 : decode cX10_least 5 = .ok (.sipush 4096, 3) := by decide +kernel
theorem dX10_least_8 : decode cX10_least 8 = .ok (.if_icmp .ge 35, 3) := by decide +kernel
theorem dX10_least_11 : decode cX10_least 11 = .ok (.iload_n 1, 1) := by decide +kernel
theorem dX10_least_12 : decode cX10_least 12 = .ok (.iconst (-1), 1) := by decide +kernel
theorem dX10_least_13 : decode cX10_least 13 = .ok (.if_icmp .eq 14, 3) := by decide +kernel
theorem dX10_least_16 : decode cX10_least 16 = .ok (.iload_n 2, 1) := by decide +kernel
theorem dX10_least_17 : decode cX10_least 17 = .ok (.invokestatic 313, 3) := by decide +kernel
theorem dX10_least_20 : decode cX10_least 20 = .ok (.iload_n 1, 1) := by decide +kernel
theorem dX10_least_21 : decode cX10_least 21 = .ok (.invokestatic 313, 3) := by decide +kernel
theorem dX10_least_24 : decode cX10_least 24 = .ok (.if_icmp .ge 13, 3) := by decide +kernel
theorem dX10_least_27 : decode cX10_least 27 = .ok (.aload_n 0, 1) := by decide +kernel
theorem dX10_least_28 : decode cX10_least 28 = .ok (.iload_n 2, 1) := by decide +kernel
theorem dX10_least_29 : decode cX10_least 29 = .ok (.invokevirtual 391, 3) := by decide +kernel
theorem dX10_least_32 : decode cX10_least 32 = .ok (.ifCond .eq 5, 3) := by decide +kernel
theorem dX10_least_35 : decode cX10_least 35 = .ok (.iload_n 2, 1) := by decide +kernel
theorem dX10_least_36 : decode cX10_least 36 = .ok (.istore_n 1, 1) := by decide +kernel
theorem dX10_least_37 : decode cX10_least 37 = .ok (.iinc 2 1, 3) := by decide +kernel
theorem dX10_least_40 : decode cX10_least 40 = .ok (.goto (-36), 3) := by decide +kernel
theorem dX10_least_43 : decode cX10_least 43 = .ok (.iload_n 1, 1) := by decide +kernel
theorem dX10_least_44 : decode cX10_least 44 = .ok (.iconst (-1), 1) := by decide +kernel
theorem dX10_least_45 : decode cX10_least 45 = .ok (.if_icmp .ne 7, 3) := by decide +kernel
theorem dX10_least_48 : decode cX10_least 48 = .ok (.iconst 0, 1) := by decide +kernel
theorem dX10_least_49 : decode cX10_least 49 = .ok (.goto 4, 3) := by decide +kernel
theorem dX10_least_52 : decode cX10_least 52 = .ok (.iload_n 1, 1) := by decide +kernel
theorem dX10_least_53 : decode cX10_least 53 = .ok (.ireturn, 1) := by decide +kernel
theorem dX10_sideBySide_0 : decode cX10_sideBySide 0 = .ok (.iload_n 1, 1) := by decide +kernel
theorem dX10_sideBySide_1 : decode cX10_sideBySide 1 = .ok (.iconst 0, 1) := by decide +kernel
theorem dX10_sideBySide_2 : decode cX10_sideBySide 2 = .ok (.iconst 1, 1) := by decide +kernel
theorem dX10_sideBySide_3 : decode cX10_sideBySide 3 = .ok (.invokestatic 152, 3) := by decide +kernel
theorem dX10_sideBySide_6 : decode cX10_sideBySide 6 = .ok (.ifCond .ne 5, 3) := by decide +kernel
theorem dX10_sideBySide_9 : decode cX10_sideBySide 9 = .ok (.iconst (-1), 1) := by decide +kernel
theorem dX10_sideBySide_10 : decode cX10_sideBySide 10 = .ok (.ireturn, 1) := by decide +kernel
theorem dX10_sideBySide_11 : decode cX10_sideBySide 11 = .ok (.aload_n 0, 1) := by decide +kernel
theorem dX10_sideBySide_12 : decode cX10_sideBySide 12 = .ok (.iload_n 1, 1) := by decide +kernel
theorem dX10_sideBySide_13 : decode cX10_sideBySide 13 = .ok (.invokevirtual 345, 3) := by decide +kernel
theorem dX10_sideBySide_16 : decode cX10_sideBySide 16 = .ok (.istore_n 2, 1) := by decide +kernel
theorem dX10_sideBySide_17 : decode cX10_sideBySide 17 = .ok (.iload_n 2, 1) := by decide +kernel
theorem dX10_sideBySide_18 : decode cX10_sideBySide 18 = .ok (.aload_n 0, 1) := by decide +kernel
theorem dX10_sideBySide_19 : decode cX10_sideBySide 19 = .ok (.iconst 1, 1) := by decide +kernel
theorem dX10_sideBySide_20 : decode cX10_sideBySide 20 = .ok (.iload_n 1, 1) := by decide +kernel
theorem dX10_sideBySide_21 : decode cX10_sideBySide 21 = .ok (.isub, 1) := by decide +kernel
theorem dX10_sideBySide_22 : decode cX10_sideBySide 22 = .ok (.invokevirtual 345, 3) := by decide +kernel
theorem dX10_sideBySide_25 : decode cX10_sideBySide 25 = .ok (.iconst (-1), 1) := by decide +kernel
theorem dX10_sideBySide_26 : decode cX10_sideBySide 26 = .ok (.ixor, 1) := by decide +kernel
theorem dX10_sideBySide_27 : decode cX10_sideBySide 27 = .ok (.iand, 1) := by decide +kernel
theorem dX10_sideBySide_28 : decode cX10_sideBySide 28 = .ok (.ireturn, 1) := by decide +kernel
theorem dX10_seed_0 : decode cX10_seed 0 = .ok (.iload_n 1, 1) := by decide +kernel
theorem dX10_seed_1 : decode cX10_seed 1 = .ok (.iconst 0, 1) := by decide +kernel
theorem dX10_seed_2 : decode cX10_seed 2 = .ok (.ldc_w 394, 3) := by decide +kernel
theorem dX10_seed_5 : decode cX10_seed 5 = .ok (.invokestatic 152, 3) := by decide +kernel
theorem dX10_seed_8 : decode cX10_seed 8 = .ok (.ifCond .ne 5, 3) := by decide +kernel
theorem dX10_seed_11 : decode cX10_seed 11 = .ok (.iconst 0, 1) := by decide +kernel
theorem dX10_seed_12 : decode cX10_seed 12 = .ok (.ireturn, 1) := by decide +kernel
theorem dX10_seed_13 : decode cX10_seed 13 = .ok (.aload_n 0, 1) := by decide +kernel
theorem dX10_seed_14 : decode cX10_seed 14 = .ok (.iload_n 1, 1) := by decide +kernel
theorem dX10_seed_15 : decode cX10_seed 15 = .ok (.putfield 134, 3) := by decide +kernel
theorem dX10_seed_18 : decode cX10_seed 18 = .ok (.iconst 1, 1) := by decide +kernel
theorem dX10_seed_19 : decode cX10_seed 19 = .ok (.ireturn, 1) := by decide +kernel
theorem dX10_keep_0 : decode cX10_keep 0 = .ok (.aload_n 0, 1) := by decide +kernel
theorem dX10_keep_1 : decode cX10_keep 1 = .ok (.iconst 1, 1) := by decide +kernel
theorem dX10_keep_2 : decode cX10_keep 2 = .ok (.putfield 395, 3) := by decide +kernel
theorem dX10_keep_5 : decode cX10_keep 5 = .ok (.aload_n 0, 1) := by decide +kernel
theorem dX10_keep_6 : decode cX10_keep 6 = .ok (.aload_n 0, 1) := by decide +kernel
theorem dX10_keep_7 : decode cX10_keep 7 = .ok (.getfield 138, 3) := by decide +kernel
theorem dX10_keep_10 : decode cX10_keep 10 = .ok (.putfield 399, 3) := by decide +kernel
theorem dX10_keep_13 : decode cX10_keep 13 = .ok (.aload_n 0, 1) := by decide +kernel
theorem dX10_keep_14 : decode cX10_keep 14 = .ok (.aload_n 0, 1) := by decide +kernel
theorem dX10_keep_15 : decode cX10_keep 15 = .ok (.getfield 145, 3) := by decide +kernel
theorem dX10_keep_18 : decode cX10_keep 18 = .ok (.putfield 402, 3) := by decide +kernel
theorem dX10_keep_21 : decode cX10_keep 21 = .ok (.aload_n 0, 1) := by decide +kernel
theorem dX10_keep_22 : decode cX10_keep 22 = .ok (.aload_n 0, 1) := by decide +kernel
theorem dX10_keep_23 : decode cX10_keep 23 = .ok (.getfield 270, 3) := by decide +kernel
theorem dX10_keep_26 : decode cX10_keep 26 = .ok (.putfield 405, 3) := by decide +kernel
theorem dX10_keep_29 : decode cX10_keep 29 = .ok (.aload_n 0, 1) := by decide +kernel
theorem dX10_keep_30 : decode cX10_keep 30 = .ok (.aload_n 0, 1) := by decide +kernel
theorem dX10_keep_31 : decode cX10_keep 31 = .ok (.getfield 134, 3) := by decide +kernel
theorem dX10_keep_34 : decode cX10_keep 34 = .ok (.putfield 408, 3) := by decide +kernel
theorem dX10_keep_37 : decode cX10_keep 37 = .ok (.aload_n 0, 1) := by decide +kernel
theorem dX10_keep_38 : decode cX10_keep 38 = .ok (.aload_n 0, 1) := by decide +kernel
theorem dX10_keep_39 : decode cX10_keep 39 = .ok (.getfield 286, 3) := by decide +kernel
theorem dX10_keep_42 : decode cX10_keep 42 = .ok (.putfield 411, 3) := by decide +kernel
theorem dX10_keep_45 : decode cX10_keep 45 = .ok (.aload_n 0, 1) := by decide +kernel
theorem dX10_keep_46 : decode cX10_keep 46 = .ok (.getfield 7, 3) := by decide +kernel
theorem dX10_keep_49 : decode cX10_keep 49 = .ok (.aload_n 0, 1) := by decide +kernel
theorem dX10_keep_50 : decode cX10_keep 50 = .ok (.getfield 110, 3) := by decide +kernel
theorem dX10_keep_53 : decode cX10_keep 53 = .ok (.bipush 16, 2) := by decide +kernel
theorem dX10_keep_55 : decode cX10_keep 55 = .ok (.invokestatic 338, 3) := by decide +kernel
theorem dX10_keep_58 : decode cX10_keep 58 = .ok (.aload_n 0, 1) := by decide +kernel
theorem dX10_keep_59 : decode cX10_keep 59 = .ok (.getfield 13, 3) := by decide +kernel
theorem dX10_keep_62 : decode cX10_keep 62 = .ok (.aload_n 0, 1) := by decide +kernel
theorem dX10_keep_63 : decode cX10_keep 63 = .ok (.getfield 113, 3) := by decide +kernel
theorem dX10_keep_66 : decode cX10_keep 66 = .ok (.bipush 16, 2) := by decide +kernel
theorem dX10_keep_68 : decode cX10_keep 68 = .ok (.invokestatic 338, 3) := by decide +kernel
theorem dX10_keep_71 : decode cX10_keep 71 = .ok (.aload_n 0, 1) := by decide +kernel
theorem dX10_keep_72 : decode cX10_keep 72 = .ok (.getfield 16, 3) := by decide +kernel
theorem dX10_keep_75 : decode cX10_keep 75 = .ok (.aload_n 0, 1) := by decide +kernel
theorem dX10_keep_76 : decode cX10_keep 76 = .ok (.getfield 116, 3) := by decide +kernel
theorem dX10_keep_79 : decode cX10_keep 79 = .ok (.bipush 16, 2) := by decide +kernel
theorem dX10_keep_81 : decode cX10_keep 81 = .ok (.invokestatic 338, 3) := by decide +kernel
theorem dX10_keep_84 : decode cX10_keep 84 = .ok (.aload_n 0, 1) := by decide +kernel
theorem dX10_keep_85 : decode cX10_keep 85 = .ok (.getfield 19, 3) := by decide +kernel
theorem dX10_keep_88 : decode cX10_keep 88 = .ok (.aload_n 0, 1) := by decide +kernel
theorem dX10_keep_89 : decode cX10_keep 89 = .ok (.getfield 119, 3) := by decide +kernel
theorem dX10_keep_92 : decode cX10_keep 92 = .ok (.bipush 16, 2) := by decide +kernel
theorem dX10_keep_94 : decode cX10_keep 94 = .ok (.invokestatic 338, 3) := by decide +kernel
theorem dX10_keep_97 : decode cX10_keep 97 = .ok (.aload_n 0, 1) := by decide +kernel
theorem dX10_keep_98 : decode cX10_keep 98 = .ok (.getfield 22, 3) := by decide +kernel
theorem dX10_keep_101 : decode cX10_keep 101 = .ok (.aload_n 0, 1) := by decide +kernel
theorem dX10_keep_102 : decode cX10_keep 102 = .ok (.getfield 122, 3) := by decide +kernel
theorem dX10_keep_105 : decode cX10_keep 105 = .ok (.bipush 16, 2) := by decide +kernel
theorem dX10_keep_107 : decode cX10_keep 107 = .ok (.invokestatic 338, 3) := by decide +kernel
theorem dX10_keep_110 : decode cX10_keep 110 = .ok (.aload_n 0, 1) := by decide +kernel
theorem dX10_keep_111 : decode cX10_keep 111 = .ok (.getfield 74, 3) := by decide +kernel
theorem dX10_keep_114 : decode cX10_keep 114 = .ok (.aload_n 0, 1) := by decide +kernel
theorem dX10_keep_115 : decode cX10_keep 115 = .ok (.getfield 125, 3) := by decide +kernel
theorem dX10_keep_118 : decode cX10_keep 118 = .ok (.bipush 12, 2) := by decide +kernel
theorem dX10_keep_120 : decode cX10_keep 120 = .ok (.invokestatic 338, 3) := by decide +kernel
theorem dX10_keep_123 : decode cX10_keep 123 = .ok (.aload_n 0, 1) := by decide +kernel
theorem dX10_keep_124 : decode cX10_keep 124 = .ok (.getfield 77, 3) := by decide +kernel
theorem dX10_keep_127 : decode cX10_keep 127 = .ok (.aload_n 0, 1) := by decide +kernel
theorem dX10_keep_128 : decode cX10_keep 128 = .ok (.getfield 128, 3) := by decide +kernel
theorem dX10_keep_131 : decode cX10_keep 131 = .ok (.bipush 12, 2) := by decide +kernel
theorem dX10_keep_133 : decode cX10_keep 133 = .ok (.invokestatic 338, 3) := by decide +kernel
theorem dX10_keep_136 : decode cX10_keep 136 = .ok (.aload_n 0, 1) := by decide +kernel
theorem dX10_keep_137 : decode cX10_keep 137 = .ok (.getfield 80, 3) := by decide +kernel
theorem dX10_keep_140 : decode cX10_keep 140 = .ok (.aload_n 0, 1) := by decide +kernel
theorem dX10_keep_141 : decode cX10_keep 141 = .ok (.getfield 131, 3) := by decide +kernel
theorem dX10_keep_144 : decode cX10_keep 144 = .ok (.bipush 12, 2) := by decide +kernel
theorem dX10_keep_146 : decode cX10_keep 146 = .ok (.invokestatic 338, 3) := by decide +kernel
theorem dX10_keep_149 : decode cX10_keep 149 = .ok (.aload_n 0, 1) := by decide +kernel
theorem dX10_keep_150 : decode cX10_keep 150 = .ok (.iconst 0, 1) := by decide +kernel
theorem dX10_keep_151 : decode cX10_keep 151 = .ok (.invokevirtual 345, 3) := by decide +kernel
theorem dX10_keep_154 : decode cX10_keep 154 = .ok (.invokestatic 313, 3) := by decide +kernel
theorem dX10_keep_157 : decode cX10_keep 157 = .ok (.ireturn, 1) := by decide +kernel
theorem dX10_undo_0 : decode cX10_undo 0 = .ok (.aload_n 0, 1) := by decide +kernel
theorem dX10_undo_1 : decode cX10_undo 1 = .ok (.getfield 395, 3) := by decide +kernel
theorem dX10_undo_4 : decode cX10_undo 4 = .ok (.ifCond .ne 5, 3) := by decide +kernel
theorem dX10_undo_7 : decode cX10_undo 7 = .ok (.iconst 0, 1) := by decide +kernel
theorem dX10_undo_8 : decode cX10_undo 8 = .ok (.ireturn, 1) := by decide +kernel
theorem dX10_undo_9 : decode cX10_undo 9 = .ok (.aload_n 0, 1) := by decide +kernel
theorem dX10_undo_10 : decode cX10_undo 10 = .ok (.aload_n 0, 1) := by decide +kernel
theorem dX10_undo_11 : decode cX10_undo 11 = .ok (.getfield 399, 3) := by decide +kernel
theorem dX10_undo_14 : decode cX10_undo 14 = .ok (.putfield 138, 3) := by decide +kernel
theorem dX10_undo_17 : decode cX10_undo 17 = .ok (.aload_n 0, 1) := by decide +kernel
theorem dX10_undo_18 : decode cX10_undo 18 = .ok (.aload_n 0, 1) := by decide +kernel
theorem dX10_undo_19 : decode cX10_undo 19 = .ok (.getfield 402, 3) := by decide +kernel
theorem dX10_undo_22 : decode cX10_undo 22 = .ok (.putfield 145, 3) := by decide +kernel
theorem dX10_undo_25 : decode cX10_undo 25 = .ok (.aload_n 0, 1) := by decide +kernel
theorem dX10_undo_26 : decode cX10_undo 26 = .ok (.aload_n 0, 1) := by decide +kernel
theorem dX10_undo_27 : decode cX10_undo 27 = .ok (.getfield 405, 3) := by decide +kernel
theorem dX10_undo_30 : decode cX10_undo 30 = .ok (.putfield 270, 3) := by decide +kernel
theorem dX10_undo_33 : decode cX10_undo 33 = .ok (.aload_n 0, 1) := by decide +kernel
theorem dX10_undo_34 : decode cX10_undo 34 = .ok (.aload_n 0, 1) := by decide +kernel
theorem dX10_undo_35 : decode cX10_undo 35 = .ok (.getfield 408, 3) := by decide +kernel
theorem dX10_undo_38 : decode cX10_undo 38 = .ok (.putfield 134, 3) := by decide +kernel
theorem dX10_undo_41 : decode cX10_undo 41 = .ok (.aload_n 0, 1) := by decide +kernel
theorem dX10_undo_42 : decode cX10_undo 42 = .ok (.aload_n 0, 1) := by decide +kernel
theorem dX10_undo_43 : decode cX10_undo 43 = .ok (.getfield 411, 3) := by decide +kernel
theorem dX10_undo_46 : decode cX10_undo 46 = .ok (.putfield 286, 3) := by decide +kernel
theorem dX10_undo_49 : decode cX10_undo 49 = .ok (.aload_n 0, 1) := by decide +kernel
theorem dX10_undo_50 : decode cX10_undo 50 = .ok (.getfield 110, 3) := by decide +kernel
theorem dX10_undo_53 : decode cX10_undo 53 = .ok (.aload_n 0, 1) := by decide +kernel
theorem dX10_undo_54 : decode cX10_undo 54 = .ok (.getfield 7, 3) := by decide +kernel
theorem dX10_undo_57 : decode cX10_undo 57 = .ok (.bipush 16, 2) := by decide +kernel
theorem dX10_undo_59 : decode cX10_undo 59 = .ok (.invokestatic 338, 3) := by decide +kernel
theorem dX10_undo_62 : decode cX10_undo 62 = .ok (.aload_n 0, 1) := by decide +kernel
theorem dX10_undo_63 : decode cX10_undo 63 = .ok (.getfield 113, 3) := by decide +kernel
theorem dX10_undo_66 : decode cX10_undo 66 = .ok (.aload_n 0, 1) := by decide +kernel
theorem dX10_undo_67 : decode cX10_undo 67 = .ok (.getfield 13, 3) := by decide +kernel
theorem dX10_undo_70 : decode cX10_undo 70 = .ok (.bipush 16, 2) := by decide +kernel
theorem dX10_undo_72 : decode cX10_undo 72 = .ok (.invokestatic 338, 3) := by decide +kernel
theorem dX10_undo_75 : decode cX10_undo 75 = .ok (.aload_n 0, 1) := by decide +kernel
theorem dX10_undo_76 : decode cX10_undo 76 = .ok (.getfield 116, 3) := by decide +kernel
theorem dX10_undo_79 : decode cX10_undo 79 = .ok (.aload_n 0, 1) := by decide +kernel
theorem dX10_undo_80 : decode cX10_undo 80 = .ok (.getfield 16, 3) := by decide +kernel
theorem dX10_undo_83 : decode cX10_undo 83 = .ok (.bipush 16, 2) := by decide +kernel
theorem dX10_undo_85 : decode cX10_undo 85 = .ok (.invokestatic 338, 3) := by decide +kernel
theorem dX10_undo_88 : decode cX10_undo 88 = .ok (.aload_n 0, 1) := by decide +kernel
theorem dX10_undo_89 : decode cX10_undo 89 = .ok (.getfield 119, 3) := by decide +kernel
theorem dX10_undo_92 : decode cX10_undo 92 = .ok (.aload_n 0, 1) := by decide +kernel
theorem dX10_undo_93 : decode cX10_undo 93 = .ok (.getfield 19, 3) := by decide +kernel
theorem dX10_undo_96 : decode cX10_undo 96 = .ok (.bipush 16, 2) := by decide +kernel
theorem dX10_undo_98 : decode cX10_undo 98 = .ok (.invokestatic 338, 3) := by decide +kernel
theorem dX10_undo_101 : decode cX10_undo 101 = .ok (.aload_n 0, 1) := by decide +kernel
theorem dX10_undo_102 : decode cX10_undo 102 = .ok (.getfield 122, 3) := by decide +kernel
theorem dX10_undo_105 : decode cX10_undo 105 = .ok (.aload_n 0, 1) := by decide +kernel
theorem dX10_undo_106 : decode cX10_undo 106 = .ok (.getfield 22, 3) := by decide +kernel
theorem dX10_undo_109 : decode cX10_undo 109 = .ok (.bipush 16, 2) := by decide +kernel
theorem dX10_undo_111 : decode cX10_undo 111 = .ok (.invokestatic 338, 3) := by decide +kernel
theorem dX10_undo_114 : decode cX10_undo 114 = .ok (.aload_n 0, 1) := by decide +kernel
theorem dX10_undo_115 : decode cX10_undo 115 = .ok (.getfield 125, 3) := by decide +kernel
theorem dX10_undo_118 : decode cX10_undo 118 = .ok (.aload_n 0, 1) := by decide +kernel
theorem dX10_undo_119 : decode cX10_undo 119 = .ok (.getfield 74, 3) := by decide +kernel
theorem dX10_undo_122 : decode cX10_undo 122 = .ok (.bipush 12, 2) := by decide +kernel
theorem dX10_undo_124 : decode cX10_undo 124 = .ok (.invokestatic 338, 3) := by decide +kernel
theorem dX10_undo_127 : decode cX10_undo 127 = .ok (.aload_n 0, 1) := by decide +kernel
theorem dX10_undo_128 : decode cX10_undo 128 = .ok (.getfield 128, 3) := by decide +kernel
theorem dX10_undo_131 : decode cX10_undo 131 = .ok (.aload_n 0, 1) := by decide +kernel
theorem dX10_undo_132 : decode cX10_undo 132 = .ok (.getfield 77, 3) := by decide +kernel
theorem dX10_undo_135 : decode cX10_undo 135 = .ok (.bipush 12, 2) := by decide +kernel
theorem dX10_undo_137 : decode cX10_undo 137 = .ok (.invokestatic 338, 3) := by decide +kernel
theorem dX10_undo_140 : decode cX10_undo 140 = .ok (.aload_n 0, 1) := by decide +kernel
theorem dX10_undo_141 : decode cX10_undo 141 = .ok (.getfield 131, 3) := by decide +kernel
theorem dX10_undo_144 : decode cX10_undo 144 = .ok (.aload_n 0, 1) := by decide +kernel
theorem dX10_undo_145 : decode cX10_undo 145 = .ok (.getfield 80, 3) := by decide +kernel
theorem dX10_undo_148 : decode cX10_undo 148 = .ok (.bipush 12, 2) := by decide +kernel
theorem dX10_undo_150 : decode cX10_undo 150 = .ok (.invokestatic 338, 3) := by decide +kernel
theorem dX10_undo_153 : decode cX10_undo 153 = .ok (.iconst 1, 1) := by decide +kernel
theorem dX10_undo_154 : decode cX10_undo 154 = .ok (.ireturn, 1) := by decide +kernel
theorem dX10_tapeNumber_0 : decode cX10_tapeNumber 0 = .ok (.iconst 0, 1) := by decide +kernel
theorem dX10_tapeNumber_1 : decode cX10_tapeNumber 1 = .ok (.istore_n 2, 1) := by decide +kernel
theorem dX10_tapeNumber_2 : decode cX10_tapeNumber 2 = .ok (.iconst 4, 1) := by decide +kernel
theorem dX10_tapeNumber_3 : decode cX10_tapeNumber 3 = .ok (.iload_n 1, 1) := by decide +kernel
theorem dX10_tapeNumber_4 : decode cX10_tapeNumber 4 = .ok (.imul, 1) := by decide +kernel
theorem dX10_tapeNumber_5 : decode cX10_tapeNumber 5 = .ok (.istore_n 3, 1) := by decide +kernel
theorem dX10_tapeNumber_6 : decode cX10_tapeNumber 6 = .ok (.iload_n 3, 1) := by decide +kernel
theorem dX10_tapeNumber_7 : decode cX10_tapeNumber 7 = .ok (.iconst 4, 1) := by decide +kernel
theorem dX10_tapeNumber_8 : decode cX10_tapeNumber 8 = .ok (.iload_n 1, 1) := by decide +kernel
theorem dX10_tapeNumber_9 : decode cX10_tapeNumber 9 = .ok (.imul, 1) := by decide +kernel
theorem dX10_tapeNumber_10 : decode cX10_tapeNumber 10 = .ok (.iconst 4, 1) := by decide +kernel
theorem dX10_tapeNumber_11 : decode cX10_tapeNumber 11 = .ok (.iadd, 1) := by decide +kernel
theorem dX10_tapeNumber_12 : decode cX10_tapeNumber 12 = .ok (.if_icmp .ge 25, 3) := by decide +kernel
theorem dX10_tapeNumber_15 : decode cX10_tapeNumber 15 = .ok (.iload_n 2, 1) := by decide +kernel
theorem dX10_tapeNumber_16 : decode cX10_tapeNumber 16 = .ok (.bipush 8, 2) := by decide +kernel
theorem dX10_tapeNumber_18 : decode cX10_tapeNumber 18 = .ok (.ishl, 1) := by decide +kernel
theorem dX10_tapeNumber_19 : decode cX10_tapeNumber 19 = .ok (.aload_n 0, 1) := by decide +kernel
theorem dX10_tapeNumber_20 : decode cX10_tapeNumber 20 = .ok (.getfield 25, 3) := by decide +kernel
theorem dX10_tapeNumber_23 : decode cX10_tapeNumber 23 = .ok (.iload_n 3, 1) := by decide +kernel
theorem dX10_tapeNumber_24 : decode cX10_tapeNumber 24 = .ok (.baload, 1) := by decide +kernel
theorem dX10_tapeNumber_25 : decode cX10_tapeNumber 25 = .ok (.sipush 255, 3) := by decide +kernel
theorem dX10_tapeNumber_28 : decode cX10_tapeNumber 28 = .ok (.iand, 1) := by decide +kernel
theorem dX10_tapeNumber_29 : decode cX10_tapeNumber 29 = .ok (.ior, 1) := by decide +kernel
theorem dX10_tapeNumber_30 : decode cX10_tapeNumber 30 = .ok (.istore_n 2, 1) := by decide +kernel
theorem dX10_tapeNumber_31 : decode cX10_tapeNumber 31 = .ok (.iinc 3 1, 3) := by decide +kernel
theorem dX10_tapeNumber_34 : decode cX10_tapeNumber 34 = .ok (.goto (-28), 3) := by decide +kernel
theorem dX10_tapeNumber_37 : decode cX10_tapeNumber 37 = .ok (.iload_n 2, 1) := by decide +kernel
theorem dX10_tapeNumber_38 : decode cX10_tapeNumber 38 = .ok (.ireturn, 1) := by decide +kernel
theorem dX10_check_0 : decode cX10_check 0 = .ok (.iload_n 1, 1) := by decide +kernel
theorem dX10_check_1 : decode cX10_check 1 = .ok (.iconst 0, 1) := by decide +kernel
theorem dX10_check_2 : decode cX10_check 2 = .ok (.bipush 16, 2) := by decide +kernel
theorem dX10_check_4 : decode cX10_check 4 = .ok (.invokestatic 152, 3) := by decide +kernel
theorem dX10_check_7 : decode cX10_check 7 = .ok (.ifCond .eq 13, 3) := by decide +kernel
theorem dX10_check_10 : decode cX10_check 10 = .ok (.iload_n 1, 1) := by decide +kernel
theorem dX10_check_11 : decode cX10_check 11 = .ok (.aload_n 0, 1) := by decide +kernel
theorem dX10_check_12 : decode cX10_check 12 = .ok (.getfield 167, 3) := by decide +kernel
theorem dX10_check_15 : decode cX10_check 15 = .ok (.iconst 4, 1) := by decide +kernel
theorem dX10_check_16 : decode cX10_check 16 = .ok (.idiv, 1) := by decide +kernel
theorem dX10_check_17 : decode cX10_check 17 = .ok (.if_icmp .le 6, 3) := by decide +kernel
theorem dX10_check_20 : decode cX10_check 20 = .ok (.bipush (-2), 2) := by decide +kernel
theorem dX10_check_22 : decode cX10_check 22 = .ok (.ireturn, 1) := by decide +kernel
theorem dX10_check_23 : decode cX10_check 23 = .ok (.aload_n 0, 1) := by decide +kernel
theorem dX10_check_24 : decode cX10_check 24 = .ok (.iconst 0, 1) := by decide +kernel
theorem dX10_check_25 : decode cX10_check 25 = .ok (.putfield 167, 3) := by decide +kernel
theorem dX10_check_28 : decode cX10_check 28 = .ok (.iconst 0, 1) := by decide +kernel
theorem dX10_check_29 : decode cX10_check 29 = .ok (.istore_n 2, 1) := by decide +kernel
theorem dX10_check_30 : decode cX10_check 30 = .ok (.iload_n 2, 1) := by decide +kernel
theorem dX10_check_31 : decode cX10_check 31 = .ok (.iload_n 1, 1) := by decide +kernel
theorem dX10_check_32 : decode cX10_check 32 = .ok (.if_icmp .ge 32, 3) := by decide +kernel
theorem dX10_check_35 : decode cX10_check 35 = .ok (.iload_n 2, 1) := by decide +kernel
theorem dX10_check_36 : decode cX10_check 36 = .ok (.aload_n 0, 1) := by decide +kernel
theorem dX10_check_37 : decode cX10_check 37 = .ok (.getfield 138, 3) := by decide +kernel
theorem dX10_check_40 : decode cX10_check 40 = .ok (.if_icmp .eq 16, 3) := by decide +kernel
theorem dX10_check_43 : decode cX10_check 43 = .ok (.aload_n 0, 1) := by decide +kernel
theorem dX10_check_44 : decode cX10_check 44 = .ok (.iload_n 2, 1) := by decide +kernel
theorem dX10_check_45 : decode cX10_check 45 = .ok (.invokevirtual 414, 3) := by decide +kernel
theorem dX10_check_48 : decode cX10_check 48 = .ok (.aload_n 0, 1) := by decide +kernel
theorem dX10_check_49 : decode cX10_check 49 = .ok (.iload_n 2, 1) := by decide +kernel
theorem dX10_check_50 : decode cX10_check 50 = .ok (.invokevirtual 159, 3) := by decide +kernel
theorem dX10_check_53 : decode cX10_check 53 = .ok (.if_icmp .eq 5, 3) := by decide +kernel
theorem dX10_check_56 : decode cX10_check 56 = .ok (.iload_n 2, 1) := by decide +kernel
theorem dX10_check_57 : decode cX10_check 57 = .ok (.ireturn, 1) := by decide +kernel
theorem dX10_check_58 : decode cX10_check 58 = .ok (.iinc 2 1, 3) := by decide +kernel
theorem dX10_check_61 : decode cX10_check 61 = .ok (.goto (-31), 3) := by decide +kernel
theorem dX10_check_64 : decode cX10_check 64 = .ok (.iconst (-1), 1) := by decide +kernel
theorem dX10_check_65 : decode cX10_check 65 = .ok (.ireturn, 1) := by decide +kernel
theorem dX10_count_0 : decode cX10_count 0 = .ok (.iload_n 1, 1) := by decide +kernel
theorem dX10_count_1 : decode cX10_count 1 = .ok (.tableswitch 110 0 9 #[55, 60, 65, 72, 79, 84, 89, 94, 99, 104], 55) := by decide +kernel
theorem dX10_count_56 : decode cX10_count 56 = .ok (.aload_n 0, 1) := by decide +kernel
theorem dX10_count_57 : decode cX10_count 57 = .ok (.getfield 138, 3) := by decide +kernel
theorem dX10_count_60 : decode cX10_count 60 = .ok (.ireturn, 1) := by decide +kernel
theorem dX10_count_61 : decode cX10_count 61 = .ok (.aload_n 0, 1) := by decide +kernel
theorem dX10_count_62 : decode cX10_count 62 = .ok (.getfield 286, 3) := by decide +kernel
theorem dX10_count_65 : decode cX10_count 65 = .ok (.ireturn, 1) := by decide +kernel
theorem dX10_count_66 : decode cX10_count 66 = .ok (.aload_n 0, 1) := by decide +kernel
theorem dX10_count_67 : decode cX10_count 67 = .ok (.getfield 50, 3) := by decide +kernel
theorem dX10_count_70 : decode cX10_count 70 = .ok (.iconst 0, 1) := by decide +kernel
theorem dX10_count_71 : decode cX10_count 71 = .ok (.iaload, 1) := by decide +kernel
theorem dX10_count_72 : decode cX10_count 72 = .ok (.ireturn, 1) := by decide +kernel
theorem dX10_count_73 : decode cX10_count 73 = .ok (.aload_n 0, 1) := by decide +kernel
theorem dX10_count_74 : decode cX10_count 74 = .ok (.getfield 50, 3) := by decide +kernel
theorem dX10_count_77 : decode cX10_count 77 = .ok (.iconst 1, 1) := by decide +kernel
theorem dX10_count_78 : decode cX10_count 78 = .ok (.iaload, 1) := by decide +kernel
theorem dX10_count_79 : decode cX10_count 79 = .ok (.ireturn, 1) := by decide +kernel
theorem dX10_count_80 : decode cX10_count 80 = .ok (.aload_n 0, 1) := by decide +kernel
theorem dX10_count_81 : decode cX10_count 81 = .ok (.getfield 167, 3) := by decide +kernel
theorem dX10_count_84 : decode cX10_count 84 = .ok (.ireturn, 1) := by decide +kernel
theorem dX10_count_85 : decode cX10_count 85 = .ok (.aload_n 0, 1) := by decide +kernel
theorem dX10_count_86 : decode cX10_count 86 = .ok (.getfield 270, 3) := by decide +kernel
theorem dX10_count_89 : decode cX10_count 89 = .ok (.ireturn, 1) := by decide +kernel
theorem dX10_count_90 : decode cX10_count 90 = .ok (.aload_n 0, 1) := by decide +kernel
theorem dX10_count_91 : decode cX10_count 91 = .ok (.getfield 134, 3) := by decide +kernel
theorem dX10_count_94 : decode cX10_count 94 = .ok (.ireturn, 1) := by decide +kernel
theorem dX10_count_95 : decode cX10_count 95 = .ok (.aload_n 0, 1) := by decide +kernel
theorem dX10_count_96 : decode cX10_count 96 = .ok (.getfield 388, 3) := by decide +kernel
theorem dX10_count_99 : decode cX10_count 99 = .ok (.ireturn, 1) := by decide +kernel
theorem dX10_count_100 : decode cX10_count 100 = .ok (.aload_n 0, 1) := by decide +kernel
theorem dX10_count_101 : decode cX10_count 101 = .ok (.getfield 145, 3) := by decide +kernel
theorem dX10_count_104 : decode cX10_count 104 = .ok (.ireturn, 1) := by decide +kernel
theorem dX10_count_105 : decode cX10_count 105 = .ok (.aload_n 0, 1) := by decide +kernel
theorem dX10_count_106 : decode cX10_count 106 = .ok (.iconst 0, 1) := by decide +kernel
theorem dX10_count_107 : decode cX10_count 107 = .ok (.invokevirtual 345, 3) := by decide +kernel
theorem dX10_count_110 : decode cX10_count 110 = .ok (.ireturn, 1) := by decide +kernel
theorem dX10_count_111 : decode cX10_count 111 = .ok (.iload_n 1, 1) := by decide +kernel
theorem dX10_count_112 : decode cX10_count 112 = .ok (.bipush 20, 2) := by decide +kernel
theorem dX10_count_114 : decode cX10_count 114 = .ok (.bipush 19, 2) := by decide +kernel
theorem dX10_count_116 : decode cX10_count 116 = .ok (.aload_n 0, 1) := by decide +kernel
theorem dX10_count_117 : decode cX10_count 117 = .ok (.getfield 286, 3) := by decide +kernel
theorem dX10_count_120 : decode cX10_count 120 = .ok (.iadd, 1) := by decide +kernel
theorem dX10_count_121 : decode cX10_count 121 = .ok (.invokestatic 152, 3) := by decide +kernel
theorem dX10_count_124 : decode cX10_count 124 = .ok (.ifCond .eq 13, 3) := by decide +kernel
theorem dX10_count_127 : decode cX10_count 127 = .ok (.aload_n 0, 1) := by decide +kernel
theorem dX10_count_128 : decode cX10_count 128 = .ok (.getfield 80, 3) := by decide +kernel
theorem dX10_count_131 : decode cX10_count 131 = .ok (.iload_n 1, 1) := by decide +kernel
theorem dX10_count_132 : decode cX10_count 132 = .ok (.bipush 20, 2) := by decide +kernel
theorem dX10_count_134 : decode cX10_count 134 = .ok (.isub, 1) := by decide +kernel
theorem dX10_count_135 : decode cX10_count 135 = .ok (.iaload, 1) := by decide +kernel
theorem dX10_count_136 : decode cX10_count 136 = .ok (.ireturn, 1) := by decide +kernel
theorem dX10_count_137 : decode cX10_count 137 = .ok (.iload_n 1, 1) := by decide +kernel
theorem dX10_count_138 : decode cX10_count 138 = .ok (.bipush 40, 2) := by decide +kernel
theorem dX10_count_140 : decode cX10_count 140 = .ok (.bipush 39, 2) := by decide +kernel
theorem dX10_count_142 : decode cX10_count 142 = .ok (.aload_n 0, 1) := by decide +kernel
theorem dX10_count_143 : decode cX10_count 143 = .ok (.getfield 138, 3) := by decide +kernel
theorem dX10_count_146 : decode cX10_count 146 = .ok (.iadd, 1) := by decide +kernel
theorem dX10_count_147 : decode cX10_count 147 = .ok (.invokestatic 152, 3) := by decide +kernel
theorem dX10_count_150 : decode cX10_count 150 = .ok (.ifCond .eq 13, 3) := by decide +kernel
theorem dX10_count_153 : decode cX10_count 153 = .ok (.aload_n 0, 1) := by decide +kernel
theorem dX10_count_154 : decode cX10_count 154 = .ok (.getfield 16, 3) := by decide +kernel
theorem dX10_count_157 : decode cX10_count 157 = .ok (.iload_n 1, 1) := by decide +kernel
theorem dX10_count_158 : decode cX10_count 158 = .ok (.bipush 40, 2) := by decide +kernel
theorem dX10_count_160 : decode cX10_count 160 = .ok (.isub, 1) := by decide +kernel
theorem dX10_count_161 : decode cX10_count 161 = .ok (.iaload, 1) := by decide +kernel
theorem dX10_count_162 : decode cX10_count 162 = .ok (.ireturn, 1) := by decide +kernel
theorem dX10_count_163 : decode cX10_count 163 = .ok (.iload_n 1, 1) := by decide +kernel
theorem dX10_count_164 : decode cX10_count 164 = .ok (.bipush 60, 2) := by decide +kernel
theorem dX10_count_166 : decode cX10_count 166 = .ok (.bipush 59, 2) := by decide +kernel
theorem dX10_count_168 : decode cX10_count 168 = .ok (.aload_n 0, 1) := by decide +kernel
theorem dX10_count_169 : decode cX10_count 169 = .ok (.getfield 138, 3) := by decide +kernel
theorem dX10_count_172 : decode cX10_count 172 = .ok (.iadd, 1) := by decide +kernel
theorem dX10_count_173 : decode cX10_count 173 = .ok (.invokestatic 152, 3) := by decide +kernel
theorem dX10_count_176 : decode cX10_count 176 = .ok (.ifCond .eq 15, 3) := by decide +kernel
theorem dX10_count_179 : decode cX10_count 179 = .ok (.aload_n 0, 1) := by decide +kernel
theorem dX10_count_180 : decode cX10_count 180 = .ok (.getfield 13, 3) := by decide +kernel
theorem dX10_count_183 : decode cX10_count 183 = .ok (.iload_n 1, 1) := by decide +kernel
theorem dX10_count_184 : decode cX10_count 184 = .ok (.bipush 60, 2) := by decide +kernel
theorem dX10_count_186 : decode cX10_count 186 = .ok (.isub, 1) := by decide +kernel
theorem dX10_count_187 : decode cX10_count 187 = .ok (.iaload, 1) := by decide +kernel
theorem dX10_count_188 : decode cX10_count 188 = .ok (.goto 4, 3) := by decide +kernel
theorem dX10_count_191 : decode cX10_count 191 = .ok (.iconst (-1), 1) := by decide +kernel
theorem dX10_count_192 : decode cX10_count 192 = .ok (.ireturn, 1) := by decide +kernel
