theorem dX0_init_0 : decode cX0_init 0 = .ok (.aload_n 0, 1) := by decide +kernel
theorem dX0_init_1 : decode cX0_init 1 = .ok (.invokespecial 3, 3) := by decide +kernel
theorem dX0_init_4 : decode cX0_init 4 = .ok (.aload_n 0, 1) := by decide +kernel
theorem dX0_init_5 : decode cX0_init 5 = .ok (.bipush 16, 2) := by decide +kernel
theorem dX0_init_7 : decode cX0_init 7 = .ok (.newarray .int, 2) := by decide +kernel
theorem dX0_init_9 : decode cX0_init 9 = .ok (.putfield 9, 3) := by decide +kernel
theorem dX0_init_12 : decode cX0_init 12 = .ok (.aload_n 0, 1) := by decide +kernel
theorem dX0_init_13 : decode cX0_init 13 = .ok (.bipush 16, 2) := by decide +kernel
theorem dX0_init_15 : decode cX0_init 15 = .ok (.newarray .int, 2) := by decide +kernel
theorem dX0_init_17 : decode cX0_init 17 = .ok (.putfield 15, 3) := by decide +kernel
theorem dX0_init_20 : decode cX0_init 20 = .ok (.aload_n 0, 1) := by decide +kernel
theorem dX0_init_21 : decode cX0_init 21 = .ok (.bipush 16, 2) := by decide +kernel
theorem dX0_init_23 : decode cX0_init 23 = .ok (.newarray .int, 2) := by decide +kernel
theorem dX0_init_25 : decode cX0_init 25 = .ok (.putfield 18, 3) := by decide +kernel
theorem dX0_init_28 : decode cX0_init 28 = .ok (.aload_n 0, 1) := by decide +kernel
theorem dX0_init_29 : decode cX0_init 29 = .ok (.aload_n 1, 1) := by decide +kernel
theorem dX0_init_30 : decode cX0_init 30 = .ok (.putfield 21, 3) := by decide +kernel
theorem dX0_init_33 : decode cX0_init 33 = .ok (.return_, 1) := by decide +kernel
theorem dX0_search_0 : decode cX0_search 0 = .ok (.aload_n 0, 1) := by decide +kernel
theorem dX0_search_1 : decode cX0_search 1 = .ok (.iload_n 1, 1) := by decide +kernel
theorem dX0_search_2 : decode cX0_search 2 = .ok (.putfield 25, 3) := by decide +kernel
theorem dX0_search_5 : decode cX0_search 5 = .ok (.iconst 0, 1) := by decide +kernel
theorem dX0_search_6 : decode cX0_search 6 = .ok (.istore_n 3, 1) := by decide +kernel
theorem dX0_search_7 : decode cX0_search 7 = .ok (.iload_n 3, 1) := by decide +kernel
theorem dX0_search_8 : decode cX0_search 8 = .ok (.bipush 16, 2) := by decide +kernel
theorem dX0_search_10 : decode cX0_search 10 = .ok (.if_icmp .ge 23, 3) := by decide +kernel
theorem dX0_search_13 : decode cX0_search 13 = .ok (.aload_n 0, 1) := by decide +kernel
theorem dX0_search_14 : decode cX0_search 14 = .ok (.getfield 15, 3) := by decide +kernel
theorem dX0_search_17 : decode cX0_search 17 = .ok (.iload_n 3, 1) := by decide +kernel
theorem dX0_search_18 : decode cX0_search 18 = .ok (.iconst 0, 1) := by decide +kernel
theorem dX0_search_19 : decode cX0_search 19 = .ok (.iastore, 1) := by decide +kernel
theorem dX0_search_20 : decode cX0_search 20 = .ok (.aload_n 0, 1) := by decide +kernel
theorem dX0_search_21 : decode cX0_search 21 = .ok (.getfield 18, 3) := by decide +kernel
theorem dX0_search_24 : decode cX0_search 24 = .ok (.iload_n 3, 1) := by decide +kernel
theorem dX0_search_25 : decode cX0_search 25 = .ok (.iconst (-1), 1) := by decide +kernel
theorem dX0_search_26 : decode cX0_search 26 = .ok (.iastore, 1) := by decide +kernel
theorem dX0_search_27 : decode cX0_search 27 = .ok (.iinc 3 1, 3) := by decide +kernel
theorem dX0_search_30 : decode cX0_search 30 = .ok (.goto (-23), 3) := by decide +kernel
theorem dX0_search_33 : decode cX0_search 33 = .ok (.aload_n 0, 1) := by decide +kernel
theorem dX0_search_34 : decode cX0_search 34 = .ok (.getfield 21, 3) := by decide +kernel
theorem dX0_search_37 : decode cX0_search 37 = .ok (.getfield 29, 3) := by decide +kernel
theorem dX0_search_40 : decode cX0_search 40 = .ok (.iconst 1, 1) := by decide +kernel
theorem dX0_search_41 : decode cX0_search 41 = .ok (.isub, 1) := by decide +kernel
theorem dX0_search_42 : decode cX0_search 42 = .ok (.istore_n 3, 1) := by decide +kernel
theorem dX0_search_43 : decode cX0_search 43 = .ok (.iload_n 3, 1) := by decide +kernel
theorem dX0_search_44 : decode cX0_search 44 = .ok (.ifCond .lt 58, 3) := by decide +kernel
theorem dX0_search_47 : decode cX0_search 47 = .ok (.aload_n 0, 1) := by decide +kernel
theorem dX0_search_48 : decode cX0_search 48 = .ok (.getfield 21, 3) := by decide +kernel
theorem dX0_search_51 : decode cX0_search 51 = .ok (.getfield 34, 3) := by decide +kernel
theorem dX0_search_54 : decode cX0_search 54 = .ok (.iload_n 3, 1) := by decide +kernel
theorem dX0_search_55 : decode cX0_search 55 = .ok (.iaload, 1) := by decide +kernel
theorem dX0_search_56 : decode cX0_search 56 = .ok (.istore 4, 2) := by decide +kernel
theorem dX0_search_58 : decode cX0_search 58 = .ok (.iload 4, 2) := by decide +kernel
theorem dX0_search_60 : decode cX0_search 60 = .ok (.aload_n 0, 1) := by decide +kernel
theorem dX0_search_61 : decode cX0_search 61 = .ok (.getfield 21, 3) := by decide +kernel
theorem dX0_search_64 : decode cX0_search 64 = .ok (.getfield 37, 3) := by decide +kernel
theorem dX0_search_67 : decode cX0_search 67 = .ok (.if_icmp .ne 22, 3) := by decide +kernel
theorem dX0_search_70 : decode cX0_search 70 = .ok (.aload_n 0, 1) := by decide +kernel
theorem dX0_search_71 : decode cX0_search 71 = .ok (.getfield 9, 3) := by decide +kernel
theorem dX0_search_74 : decode cX0_search 74 = .ok (.iload 4, 2) := by decide +kernel
theorem dX0_search_76 : decode cX0_search 76 = .ok (.iconst 0, 1) := by decide +kernel
theorem dX0_search_77 : decode cX0_search 77 = .ok (.iastore, 1) := by decide +kernel
theorem dX0_search_78 : decode cX0_search 78 = .ok (.aload_n 0, 1) := by decide +kernel
theorem dX0_search_79 : decode cX0_search 79 = .ok (.getfield 15, 3) := by decide +kernel
theorem dX0_search_82 : decode cX0_search 82 = .ok (.iload 4, 2) := by decide +kernel
theorem dX0_search_84 : decode cX0_search 84 = .ok (.iconst 1, 1) := by decide +kernel
theorem dX0_search_85 : decode cX0_search 85 = .ok (.iastore, 1) := by decide +kernel
theorem dX0_search_86 : decode cX0_search 86 = .ok (.goto 10, 3) := by decide +kernel
theorem dX0_search_89 : decode cX0_search 89 = .ok (.aload_n 0, 1) := by decide +kernel
theorem dX0_search_90 : decode cX0_search 90 = .ok (.iload 4, 2) := by decide +kernel
theorem dX0_search_92 : decode cX0_search 92 = .ok (.iload_n 2, 1) := by decide +kernel
theorem dX0_search_93 : decode cX0_search 93 = .ok (.invokevirtual 40, 3) := by decide +kernel
theorem dX0_search_96 : decode cX0_search 96 = .ok (.iinc 3 (-1), 3) := by decide +kernel
theorem dX0_search_99 : decode cX0_search 99 = .ok (.goto (-56), 3) := by decide +kernel
theorem dX0_search_102 : decode cX0_search 102 = .ok (.aload_n 0, 1) := by decide +kernel
theorem dX0_search_103 : decode cX0_search 103 = .ok (.getfield 15, 3) := by decide +kernel
theorem dX0_search_106 : decode cX0_search 106 = .ok (.iload_n 1, 1) := by decide +kernel
theorem dX0_search_107 : decode cX0_search 107 = .ok (.iaload, 1) := by decide +kernel
theorem dX0_search_108 : decode cX0_search 108 = .ok (.ifCond .le 7, 3) := by decide +kernel
theorem dX0_search_111 : decode cX0_search 111 = .ok (.iconst 1, 1) := by decide +kernel
theorem dX0_search_112 : decode cX0_search 112 = .ok (.goto 4, 3) := by decide +kernel
theorem dX0_search_115 : decode cX0_search 115 = .ok (.iconst 0, 1) := by decide +kernel
theorem dX0_search_116 : decode cX0_search 116 = .ok (.ireturn, 1) := by decide +kernel
theorem dX0_chooseNext_0 : decode cX0_chooseNext 0 = .ok (.iconst 0, 1) := by decide +kernel
theorem dX0_chooseNext_1 : decode cX0_chooseNext 1 = .ok (.istore_n 3, 1) := by decide +kernel
theorem dX0_chooseNext_2 : decode cX0_chooseNext 2 = .ok (.iload_n 3, 1) := by decide +kernel
theorem dX0_chooseNext_3 : decode cX0_chooseNext 3 = .ok (.bipush 16, 2) := by decide +kernel
theorem dX0_chooseNext_5 : decode cX0_chooseNext 5 = .ok (.if_icmp .ge 147, 3) := by decide +kernel
theorem dX0_chooseNext_8 : decode cX0_chooseNext 8 = .ok (.aload_n 0, 1) := by decide +kernel
theorem dX0_chooseNext_9 : decode cX0_chooseNext 9 = .ok (.getfield 15, 3) := by decide +kernel
theorem dX0_chooseNext_12 : decode cX0_chooseNext 12 = .ok (.iload_n 3, 1) := by decide +kernel
theorem dX0_chooseNext_13 : decode cX0_chooseNext 13 = .ok (.iaload, 1) := by decide +kernel
theorem dX0_chooseNext_14 : decode cX0_chooseNext 14 = .ok (.ifCond .le 132, 3) := by decide +kernel
theorem dX0_chooseNext_17 : decode cX0_chooseNext 17 = .ok (.aload_n 0, 1) := by decide +kernel
theorem dX0_chooseNext_18 : decode cX0_chooseNext 18 = .ok (.getfield 21, 3) := by decide +kernel
theorem dX0_chooseNext_21 : decode cX0_chooseNext 21 = .ok (.iload_n 1, 1) := by decide +kernel
theorem dX0_chooseNext_22 : decode cX0_chooseNext 22 = .ok (.iload_n 3, 1) := by decide +kernel
theorem dX0_chooseNext_23 : decode cX0_chooseNext 23 = .ok (.invokevirtual 44, 3) := by decide +kernel
theorem dX0_chooseNext_26 : decode cX0_chooseNext 26 = .ok (.ifCond .eq 120, 3) := by decide +kernel
theorem dX0_chooseNext_29 : decode cX0_chooseNext 29 = .ok (.aload_n 0, 1) := by decide +kernel
theorem dX0_chooseNext_30 : decode cX0_chooseNext 30 = .ok (.getfield 9, 3) := by decide +kernel
theorem dX0_chooseNext_33 : decode cX0_chooseNext 33 = .ok (.iload_n 3, 1) := by decide +kernel
theorem dX0_chooseNext_34 : decode cX0_chooseNext 34 = .ok (.iaload, 1) := by decide +kernel
theorem dX0_chooseNext_35 : decode cX0_chooseNext 35 = .ok (.iload_n 2, 1) := by decide +kernel
theorem dX0_chooseNext_36 : decode cX0_chooseNext 36 = .ok (.iload_n 3, 1) := by decide +kernel
theorem dX0_chooseNext_37 : decode cX0_chooseNext 37 = .ok (.invokestatic 48, 3) := by decide +kernel
theorem dX0_chooseNext_40 : decode cX0_chooseNext 40 = .ok (.ifCond .eq 7, 3) := by decide +kernel
theorem dX0_chooseNext_43 : decode cX0_chooseNext 43 = .ok (.iconst 0, 1) := by decide +kernel
theorem dX0_chooseNext_44 : decode cX0_chooseNext 44 = .ok (.goto 12, 3) := by decide +kernel
theorem dX0_chooseNext_47 : decode cX0_chooseNext 47 = .ok (.aload_n 0, 1) := by decide +kernel
theorem dX0_chooseNext_48 : decode cX0_chooseNext 48 = .ok (.getfield 21, 3) := by decide +kernel
theorem dX0_chooseNext_51 : decode cX0_chooseNext 51 = .ok (.iload_n 1, 1) := by decide +kernel
theorem dX0_chooseNext_52 : decode cX0_chooseNext 52 = .ok (.iload_n 3, 1) := by decide +kernel
theorem dX0_chooseNext_53 : decode cX0_chooseNext 53 = .ok (.invokevirtual 51, 3) := by decide +kernel
theorem dX0_chooseNext_56 : decode cX0_chooseNext 56 = .ok (.iadd, 1) := by decide +kernel
theorem dX0_chooseNext_57 : decode cX0_chooseNext 57 = .ok (.istore 4, 2) := by decide +kernel
theorem dX0_chooseNext_59 : decode cX0_chooseNext 59 = .ok (.aload_n 0, 1) := by decide +kernel
theorem dX0_chooseNext_60 : decode cX0_chooseNext 60 = .ok (.getfield 15, 3) := by decide +kernel
theorem dX0_chooseNext_63 : decode cX0_chooseNext 63 = .ok (.iload_n 3, 1) := by decide +kernel
theorem dX0_chooseNext_64 : decode cX0_chooseNext 64 = .ok (.iaload, 1) := by decide +kernel
theorem dX0_chooseNext_65 : decode cX0_chooseNext 65 = .ok (.iconst 1, 1) := by decide +kernel
theorem dX0_chooseNext_66 : decode cX0_chooseNext 66 = .ok (.iadd, 1) := by decide +kernel
theorem dX0_chooseNext_67 : decode cX0_chooseNext 67 = .ok (.istore 5, 2) := by decide +kernel
theorem dX0_chooseNext_69 : decode cX0_chooseNext 69 = .ok (.iload 4, 2) := by decide +kernel
theorem dX0_chooseNext_71 : decode cX0_chooseNext 71 = .ok (.aload_n 0, 1) := by decide +kernel
theorem dX0_chooseNext_72 : decode cX0_chooseNext 72 = .ok (.getfield 9, 3) := by decide +kernel
theorem dX0_chooseNext_75 : decode cX0_chooseNext 75 = .ok (.iload_n 1, 1) := by decide +kernel
theorem dX0_chooseNext_76 : decode cX0_chooseNext 76 = .ok (.iaload, 1) := by decide +kernel
theorem dX0_chooseNext_77 : decode cX0_chooseNext 77 = .ok (.if_icmp .lt 25, 3) := by decide +kernel
theorem dX0_chooseNext_80 : decode cX0_chooseNext 80 = .ok (.iload 4, 2) := by decide +kernel
theorem dX0_chooseNext_82 : decode cX0_chooseNext 82 = .ok (.aload_n 0, 1) := by decide +kernel
theorem dX0_chooseNext_83 : decode cX0_chooseNext 83 = .ok (.getfield 9, 3) := by decide +kernel
theorem dX0_chooseNext_86 : decode cX0_chooseNext 86 = .ok (.iload_n 1, 1) := by decide +kernel
theorem dX0_chooseNext_87 : decode cX0_chooseNext 87 = .ok (.iaload, 1) := by decide +kernel
theorem dX0_chooseNext_88 : decode cX0_chooseNext 88 = .ok (.if_icmp .ne 18, 3) := by decide +kernel
theorem dX0_chooseNext_91 : decode cX0_chooseNext 91 = .ok (.iload 5, 2) := by decide +kernel
theorem dX0_chooseNext_93 : decode cX0_chooseNext 93 = .ok (.aload_n 0, 1) := by decide +kernel
theorem dX0_chooseNext_94 : decode cX0_chooseNext 94 = .ok (.getfield 15, 3) := by decide +kernel
theorem dX0_chooseNext_97 : decode cX0_chooseNext 97 = .ok (.iload_n 1, 1) := by decide +kernel
theorem dX0_chooseNext_98 : decode cX0_chooseNext 98 = .ok (.iaload, 1) := by decide +kernel
theorem dX0_chooseNext_99 : decode cX0_chooseNext 99 = .ok (.if_icmp .ge 7, 3) := by decide +kernel
theorem dX0_chooseNext_102 : decode cX0_chooseNext 102 = .ok (.iconst 1, 1) := by decide +kernel
theorem dX0_chooseNext_103 : decode cX0_chooseNext 103 = .ok (.goto 4, 3) := by decide +kernel
theorem dX0_chooseNext_106 : decode cX0_chooseNext 106 = .ok (.iconst 0, 1) := by decide +kernel
theorem dX0_chooseNext_107 : decode cX0_chooseNext 107 = .ok (.istore 6, 2) := by decide +kernel
theorem dX0_chooseNext_109 : decode cX0_chooseNext 109 = .ok (.aload_n 0, 1) := by decide +kernel
theorem dX0_chooseNext_110 : decode cX0_chooseNext 110 = .ok (.getfield 15, 3) := by decide +kernel
theorem dX0_chooseNext_113 : decode cX0_chooseNext 113 = .ok (.iload_n 1, 1) := by decide +kernel
theorem dX0_chooseNext_114 : decode cX0_chooseNext 114 = .ok (.iaload, 1) := by decide +kernel
theorem dX0_chooseNext_115 : decode cX0_chooseNext 115 = .ok (.ifCond .eq 8, 3) := by decide +kernel
theorem dX0_chooseNext_118 : decode cX0_chooseNext 118 = .ok (.iload 6, 2) := by decide +kernel
theorem dX0_chooseNext_120 : decode cX0_chooseNext 120 = .ok (.ifCond .eq 26, 3) := by decide +kernel
theorem dX0_chooseNext_123 : decode cX0_chooseNext 123 = .ok (.aload_n 0, 1) := by decide +kernel
theorem dX0_chooseNext_124 : decode cX0_chooseNext 124 = .ok (.getfield 9, 3) := by decide +kernel
theorem dX0_chooseNext_127 : decode cX0_chooseNext 127 = .ok (.iload_n 1, 1) := by decide +kernel
theorem dX0_chooseNext_128 : decode cX0_chooseNext 128 = .ok (.iload 4, 2) := by decide +kernel
theorem dX0_chooseNext_130 : decode cX0_chooseNext 130 = .ok (.iastore, 1) := by decide +kernel
theorem dX0_chooseNext_131 : decode cX0_chooseNext 131 = .ok (.aload_n 0, 1) := by decide +kernel
theorem dX0_chooseNext_132 : decode cX0_chooseNext 132 = .ok (.getfield 15, 3) := by decide +kernel
theorem dX0_chooseNext_135 : decode cX0_chooseNext 135 = .ok (.iload_n 1, 1) := by decide +kernel
theorem dX0_chooseNext_136 : decode cX0_chooseNext 136 = .ok (.iload 5, 2) := by decide +kernel
theorem dX0_chooseNext_138 : decode cX0_chooseNext 138 = .ok (.iastore, 1) := by decide +kernel
theorem dX0_chooseNext_139 : decode cX0_chooseNext 139 = .ok (.aload_n 0, 1) := by decide +kernel
theorem dX0_chooseNext_140 : decode cX0_chooseNext 140 = .ok (.getfield 18, 3) := by decide +kernel
theorem dX0_chooseNext_143 : decode cX0_chooseNext 143 = .ok (.iload_n 1, 1) := by decide +kernel
theorem dX0_chooseNext_144 : decode cX0_chooseNext 144 = .ok (.iload_n 3, 1) := by decide +kernel
theorem dX0_chooseNext_145 : decode cX0_chooseNext 145 = .ok (.iastore, 1) := by decide +kernel
theorem dX0_chooseNext_146 : decode cX0_chooseNext 146 = .ok (.iinc 3 1, 3) := by decide +kernel
theorem dX0_chooseNext_149 : decode cX0_chooseNext 149 = .ok (.goto (-147), 3) := by decide +kernel
theorem dX0_chooseNext_152 : decode cX0_chooseNext 152 = .ok (.return_, 1) := by decide +kernel
theorem dX0_leastPrice_0 : decode cX0_leastPrice 0 = .ok (.aload_n 0, 1) := by decide +kernel
theorem dX0_leastPrice_1 : decode cX0_leastPrice 1 = .ok (.getfield 9, 3) := by decide +kernel
theorem dX0_leastPrice_4 : decode cX0_leastPrice 4 = .ok (.aload_n 0, 1) := by decide +kernel
theorem dX0_leastPrice_5 : decode cX0_leastPrice 5 = .ok (.getfield 25, 3) := by decide +kernel
theorem dX0_leastPrice_8 : decode cX0_leastPrice 8 = .ok (.iaload, 1) := by decide +kernel
theorem dX0_leastPrice_9 : decode cX0_leastPrice 9 = .ok (.ireturn, 1) := by decide +kernel
theorem dX0_length_0 : decode cX0_length 0 = .ok (.aload_n 0, 1) := by decide +kernel
theorem dX0_length_1 : decode cX0_length 1 = .ok (.getfield 15, 3) := by decide +kernel
theorem dX0_length_4 : decode cX0_length 4 = .ok (.aload_n 0, 1) := by decide +kernel
theorem dX0_length_5 : decode cX0_length 5 = .ok (.getfield 25, 3) := by decide +kernel
theorem dX0_length_8 : decode cX0_length 8 = .ok (.iaload, 1) := by decide +kernel
theorem dX0_length_9 : decode cX0_length 9 = .ok (.ireturn, 1) := by decide +kernel
theorem dX0_personAt_0 : decode cX0_personAt 0 = .ok (.aload_n 0, 1) := by decide +kernel
theorem dX0_personAt_1 : decode cX0_personAt 1 = .ok (.getfield 25, 3) := by decide +kernel
theorem dX0_personAt_4 : decode cX0_personAt 4 = .ok (.istore_n 2, 1) := by decide +kernel
theorem dX0_personAt_5 : decode cX0_personAt 5 = .ok (.iconst 0, 1) := by decide +kernel
theorem dX0_personAt_6 : decode cX0_personAt 6 = .ok (.istore_n 3, 1) := by decide +kernel
theorem dX0_personAt_7 : decode cX0_personAt 7 = .ok (.iload_n 3, 1) := by decide +kernel
theorem dX0_personAt_8 : decode cX0_personAt 8 = .ok (.iload_n 1, 1) := by decide +kernel
theorem dX0_personAt_9 : decode cX0_personAt 9 = .ok (.if_icmp .ge 21, 3) := by decide +kernel
theorem dX0_personAt_12 : decode cX0_personAt 12 = .ok (.iload_n 2, 1) := by decide +kernel
theorem dX0_personAt_13 : decode cX0_personAt 13 = .ok (.iconst (-1), 1) := by decide +kernel
theorem dX0_personAt_14 : decode cX0_personAt 14 = .ok (.if_icmp .eq 16, 3) := by decide +kernel
theorem dX0_personAt_17 : decode cX0_personAt 17 = .ok (.aload_n 0, 1) := by decide +kernel
theorem dX0_personAt_18 : decode cX0_personAt 18 = .ok (.getfield 18, 3) := by decide +kernel
theorem dX0_personAt_21 : decode cX0_personAt 21 = .ok (.iload_n 2, 1) := by decide +kernel
theorem dX0_personAt_22 : decode cX0_personAt 22 = .ok (.iaload, 1) := by decide +kernel
theorem dX0_personAt_23 : decode cX0_personAt 23 = .ok (.istore_n 2, 1) := by decide +kernel
theorem dX0_personAt_24 : decode cX0_personAt 24 = .ok (.iinc 3 1, 3) := by decide +kernel
theorem dX0_personAt_27 : decode cX0_personAt 27 = .ok (.goto (-20), 3) := by decide +kernel
theorem dX0_personAt_30 : decode cX0_personAt 30 = .ok (.iload_n 2, 1) := by decide +kernel
theorem dX0_personAt_31 : decode cX0_personAt 31 = .ok (.iconst (-1), 1) := by decide +kernel
theorem dX0_personAt_32 : decode cX0_personAt 32 = .ok (.if_icmp .ne 8, 3) := by decide +kernel
theorem dX0_personAt_35 : decode cX0_personAt 35 = .ok (.bipush (-3), 2) := by decide +kernel
theorem dX0_personAt_37 : decode cX0_personAt 37 = .ok (.goto 4, 3) := by decide +kernel
theorem dX0_personAt_40 : decode cX0_personAt 40 = .ok (.iload_n 2, 1) := by decide +kernel
theorem dX0_personAt_41 : decode cX0_personAt 41 = .ok (.ireturn, 1) := by decide +kernel
theorem dX1_init_0 : decode cX1_init 0 = .ok (.aload_n 0, 1) := by decide +kernel
theorem dX1_init_1 : decode cX1_init 1 = .ok (.invokespecial 3, 3) := by decide +kernel
theorem dX1_init_4 : decode cX1_init 4 = .ok (.aload_n 0, 1) := by decide +kernel
theorem dX1_init_5 : decode cX1_init 5 = .ok (.iconst 2, 1) := by decide +kernel
theorem dX1_init_6 : decode cX1_init 6 = .ok (.newarray .int, 2) := by decide +kernel
theorem dX1_init_8 : decode cX1_init 8 = .ok (.putfield 9, 3) := by decide +kernel
theorem dX1_init_11 : decode cX1_init 11 = .ok (.aload_n 0, 1) := by decide +kernel
theorem dX1_init_12 : decode cX1_init 12 = .ok (.aload_n 1, 1) := by decide +kernel
theorem dX1_init_13 : decode cX1_init 13 = .ok (.putfield 15, 3) := by decide +kernel
theorem dX1_init_16 : decode cX1_init 16 = .ok (.return_, 1) := by decide +kernel
theorem dX1_outcomeFor_0 : decode cX1_outcomeFor 0 = .ok (.aload_n 0, 1) := by decide +kernel
theorem dX1_outcomeFor_1 : decode cX1_outcomeFor 1 = .ok (.getfield 9, 3) := by decide +kernel
theorem dX1_outcomeFor_4 : decode cX1_outcomeFor 4 = .ok (.iconst 0, 1) := by decide +kernel
theorem dX1_outcomeFor_5 : decode cX1_outcomeFor 5 = .ok (.aload_n 1, 1) := by decide +kernel
theorem dX1_outcomeFor_6 : decode cX1_outcomeFor 6 = .ok (.getfield 19, 3) := by decide +kernel
theorem dX1_outcomeFor_9 : decode cX1_outcomeFor 9 = .ok (.iload_n 2, 1) := by decide +kernel
theorem dX1_outcomeFor_10 : decode cX1_outcomeFor 10 = .ok (.iaload, 1) := by decide +kernel
theorem dX1_outcomeFor_11 : decode cX1_outcomeFor 11 = .ok (.iastore, 1) := by decide +kernel
theorem dX1_outcomeFor_12 : decode cX1_outcomeFor 12 = .ok (.aload_n 0, 1) := by decide +kernel
theorem dX1_outcomeFor_13 : decode cX1_outcomeFor 13 = .ok (.getfield 9, 3) := by decide +kernel
theorem dX1_outcomeFor_16 : decode cX1_outcomeFor 16 = .ok (.iconst 1, 1) := by decide +kernel
theorem dX1_outcomeFor_17 : decode cX1_outcomeFor 17 = .ok (.aload_n 1, 1) := by decide +kernel
theorem dX1_outcomeFor_18 : decode cX1_outcomeFor 18 = .ok (.getfield 19, 3) := by decide +kernel
theorem dX1_outcomeFor_21 : decode cX1_outcomeFor 21 = .ok (.iload_n 3, 1) := by decide +kernel
theorem dX1_outcomeFor_22 : decode cX1_outcomeFor 22 = .ok (.iaload, 1) := by decide +kernel
theorem dX1_outcomeFor_23 : decode cX1_outcomeFor 23 = .ok (.iastore, 1) := by decide +kernel
theorem dX1_outcomeFor_24 : decode cX1_outcomeFor 24 = .ok (.aload_n 0, 1) := by decide +kernel
theorem dX1_outcomeFor_25 : decode cX1_outcomeFor 25 = .ok (.iconst 0, 1) := by decide +kernel
theorem dX1_outcomeFor_26 : decode cX1_outcomeFor 26 = .ok (.aload_n 1, 1) := by decide +kernel
theorem dX1_outcomeFor_27 : decode cX1_outcomeFor 27 = .ok (.getfield 24, 3) := by decide +kernel
theorem dX1_outcomeFor_30 : decode cX1_outcomeFor 30 = .ok (.iload_n 2, 1) := by decide +kernel
theorem dX1_outcomeFor_31 : decode cX1_outcomeFor 31 = .ok (.iaload, 1) := by decide +kernel
theorem dX1_outcomeFor_32 : decode cX1_outcomeFor 32 = .ok (.aload_n 1, 1) := by decide +kernel
theorem dX1_outcomeFor_33 : decode cX1_outcomeFor 33 = .ok (.getfield 24, 3) := by decide +kernel
theorem dX1_outcomeFor_36 : decode cX1_outcomeFor 36 = .ok (.iload_n 3, 1) := by decide +kernel
theorem dX1_outcomeFor_37 : decode cX1_outcomeFor 37 = .ok (.iaload, 1) := by decide +kernel
theorem dX1_outcomeFor_38 : decode cX1_outcomeFor 38 = .ok (.iload 4, 2) := by decide +kernel
theorem dX1_outcomeFor_40 : decode cX1_outcomeFor 40 = .ok (.invokevirtual 27, 3) := by decide +kernel
theorem dX1_outcomeFor_43 : decode cX1_outcomeFor 43 = .ok (.ireturn, 1) := by decide +kernel
theorem dX1_play_0 : decode cX1_play 0 = .ok (.iload 4, 2) := by decide +kernel
theorem dX1_play_2 : decode cX1_play 2 = .ok (.ifCond .gt 19, 3) := by decide +kernel
theorem dX1_play_5 : decode cX1_play 5 = .ok (.aload_n 0, 1) := by decide +kernel
theorem dX1_play_6 : decode cX1_play 6 = .ok (.iload_n 1, 1) := by decide +kernel
theorem dX1_play_7 : decode cX1_play 7 = .ok (.iload_n 2, 1) := by decide +kernel
theorem dX1_play_8 : decode cX1_play 8 = .ok (.invokevirtual 31, 3) := by decide +kernel
theorem dX1_play_11 : decode cX1_play 11 = .ok (.aload_n 0, 1) := by decide +kernel
theorem dX1_play_12 : decode cX1_play 12 = .ok (.iconst 1, 1) := by decide +kernel
theorem dX1_play_13 : decode cX1_play 13 = .ok (.iload_n 1, 1) := by decide +kernel
theorem dX1_play_14 : decode cX1_play 14 = .ok (.isub, 1) := by decide +kernel
theorem dX1_play_15 : decode cX1_play 15 = .ok (.iload_n 3, 1) := by decide +kernel
theorem dX1_play_16 : decode cX1_play 16 = .ok (.invokevirtual 31, 3) := by decide +kernel
theorem dX1_play_19 : decode cX1_play 19 = .ok (.isub, 1) := by decide +kernel
theorem dX1_play_20 : decode cX1_play 20 = .ok (.ireturn, 1) := by decide +kernel
theorem dX1_play_21 : decode cX1_play 21 = .ok (.aload_n 0, 1) := by decide +kernel
theorem dX1_play_22 : decode cX1_play 22 = .ok (.iconst 1, 1) := by decide +kernel
theorem dX1_play_23 : decode cX1_play 23 = .ok (.iload_n 1, 1) := by decide +kernel
theorem dX1_play_24 : decode cX1_play 24 = .ok (.isub, 1) := by decide +kernel
theorem dX1_play_25 : decode cX1_play 25 = .ok (.iload_n 3, 1) := by decide +kernel
theorem dX1_play_26 : decode cX1_play 26 = .ok (.iload_n 2, 1) := by decide +kernel
theorem dX1_play_27 : decode cX1_play 27 = .ok (.iload 4, 2) := by decide +kernel
theorem dX1_play_29 : decode cX1_play 29 = .ok (.iconst 1, 1) := by decide +kernel
theorem dX1_play_30 : decode cX1_play 30 = .ok (.isub, 1) := by decide +kernel
theorem dX1_play_31 : decode cX1_play 31 = .ok (.invokevirtual 27, 3) := by decide +kernel
theorem dX1_play_34 : decode cX1_play 34 = .ok (.ineg, 1) := by decide +kernel
theorem dX1_play_35 : decode cX1_play 35 = .ok (.istore 5, 2) := by decide +kernel
theorem dX1_play_37 : decode cX1_play 37 = .ok (.bipush (-2), 2) := by decide +kernel
theorem dX1_play_39 : decode cX1_play 39 = .ok (.istore 6, 2) := by decide +kernel
theorem dX1_play_41 : decode cX1_play 41 = .ok (.iconst 0, 1) := by decide +kernel
theorem dX1_play_42 : decode cX1_play 42 = .ok (.istore 7, 2) := by decide +kernel
theorem dX1_play_44 : decode cX1_play 44 = .ok (.iload 7, 2) := by decide +kernel
theorem dX1_play_46 : decode cX1_play 46 = .ok (.bipush 16, 2) := by decide +kernel
theorem dX1_play_48 : decode cX1_play 48 = .ok (.if_icmp .ge 77, 3) := by decide +kernel
theorem dX1_play_51 : decode cX1_play 51 = .ok (.iload 5, 2) := by decide +kernel
theorem dX1_play_53 : decode cX1_play 53 = .ok (.iconst 1, 1) := by decide +kernel
theorem dX1_play_54 : decode cX1_play 54 = .ok (.if_icmp .ge 71, 3) := by decide +kernel
theorem dX1_play_57 : decode cX1_play 57 = .ok (.iload_n 2, 1) := by decide +kernel
theorem dX1_play_58 : decode cX1_play 58 = .ok (.iload_n 3, 1) := by decide +kernel
theorem dX1_play_59 : decode cX1_play 59 = .ok (.ior, 1) := by decide +kernel
theorem dX1_play_60 : decode cX1_play 60 = .ok (.iload 7, 2) := by decide +kernel
theorem dX1_play_62 : decode cX1_play 62 = .ok (.invokestatic 35, 3) := by decide +kernel
theorem dX1_play_65 : decode cX1_play 65 = .ok (.ifCond .ne 54, 3) := by decide +kernel
theorem dX1_play_68 : decode cX1_play 68 = .ok (.aload_n 0, 1) := by decide +kernel
theorem dX1_play_69 : decode cX1_play 69 = .ok (.getfield 15, 3) := by decide +kernel
theorem dX1_play_72 : decode cX1_play 72 = .ok (.getfield 39, 3) := by decide +kernel
theorem dX1_play_75 : decode cX1_play 75 = .ok (.iload 7, 2) := by decide +kernel
theorem dX1_play_77 : decode cX1_play 77 = .ok (.iaload, 1) := by decide +kernel
theorem dX1_play_78 : decode cX1_play 78 = .ok (.iload_n 2, 1) := by decide +kernel
theorem dX1_play_79 : decode cX1_play 79 = .ok (.iand, 1) := by decide +kernel
theorem dX1_play_80 : decode cX1_play 80 = .ok (.ifCond .eq 39, 3) := by decide +kernel
theorem dX1_play_83 : decode cX1_play 83 = .ok (.aload_n 0, 1) := by decide +kernel
theorem dX1_play_84 : decode cX1_play 84 = .ok (.iconst 1, 1) := by decide +kernel
theorem dX1_play_85 : decode cX1_play 85 = .ok (.iload_n 1, 1) := by decide +kernel
theorem dX1_play_86 : decode cX1_play 86 = .ok (.isub, 1) := by decide +kernel
theorem dX1_play_87 : decode cX1_play 87 = .ok (.iload_n 3, 1) := by decide +kernel
theorem dX1_play_88 : decode cX1_play 88 = .ok (.iload_n 2, 1) := by decide +kernel
theorem dX1_play_89 : decode cX1_play 89 = .ok (.iconst 1, 1) := by decide +kernel
theorem dX1_play_90 : decode cX1_play 90 = .ok (.iload 7, 2) := by decide +kernel
theorem dX1_play_92 : decode cX1_play 92 = .ok (.ishl, 1) := by decide +kernel
theorem dX1_play_93 : decode cX1_play 93 = .ok (.ior, 1) := by decide +kernel
theorem dX1_play_94 : decode cX1_play 94 = .ok (.iload 4, 2) := by decide +kernel
theorem dX1_play_96 : decode cX1_play 96 = .ok (.iconst 1, 1) := by decide +kernel
theorem dX1_play_97 : decode cX1_play 97 = .ok (.isub, 1) := by decide +kernel
theorem dX1_play_98 : decode cX1_play 98 = .ok (.invokevirtual 27, 3) := by decide +kernel
theorem dX1_play_101 : decode cX1_play 101 = .ok (.ineg, 1) := by decide +kernel
theorem dX1_play_102 : decode cX1_play 102 = .ok (.istore 8, 2) := by decide +kernel
theorem dX1_play_104 : decode cX1_play 104 = .ok (.iload 8, 2) := by decide +kernel
theorem dX1_play_106 : decode cX1_play 106 = .ok (.iload 5, 2) := by decide +kernel
theorem dX1_play_108 : decode cX1_play 108 = .ok (.if_icmp .le 11, 3) := by decide +kernel
theorem dX1_play_111 : decode cX1_play 111 = .ok (.iload 8, 2) := by decide +kernel
theorem dX1_play_113 : decode cX1_play 113 = .ok (.istore 5, 2) := by decide +kernel
theorem dX1_play_115 : decode cX1_play 115 = .ok (.iload 7, 2) := by decide +kernel
theorem dX1_play_117 : decode cX1_play 117 = .ok (.istore 6, 2) := by decide +kernel
theorem dX1_play_119 : decode cX1_play 119 = .ok (.iinc 7 1, 3) := by decide +kernel
theorem dX1_play_122 : decode cX1_play 122 = .ok (.goto (-78), 3) := by decide +kernel
theorem dX1_play_125 : decode cX1_play 125 = .ok (.aload_n 0, 1) := by decide +kernel
theorem dX1_play_126 : decode cX1_play 126 = .ok (.iload 6, 2) := by decide +kernel
theorem dX1_play_128 : decode cX1_play 128 = .ok (.putfield 44, 3) := by decide +kernel
theorem dX1_play_131 : decode cX1_play 131 = .ok (.iload 5, 2) := by decide +kernel
theorem dX1_play_133 : decode cX1_play 133 = .ok (.ireturn, 1) := by decide +kernel
theorem dX1_standing_0 : decode cX1_standing 0 = .ok (.aload_n 0, 1) := by decide +kernel
theorem dX1_standing_1 : decode cX1_standing 1 = .ok (.getfield 15, 3) := by decide +kernel
theorem dX1_standing_4 : decode cX1_standing 4 = .ok (.aload_n 0, 1) := by decide +kernel
theorem dX1_standing_5 : decode cX1_standing 5 = .ok (.getfield 9, 3) := by decide +kernel
theorem dX1_standing_8 : decode cX1_standing 8 = .ok (.iload_n 1, 1) := by decide +kernel
theorem dX1_standing_9 : decode cX1_standing 9 = .ok (.iaload, 1) := by decide +kernel
theorem dX1_standing_10 : decode cX1_standing 10 = .ok (.iload_n 2, 1) := by decide +kernel
theorem dX1_standing_11 : decode cX1_standing 11 = .ok (.invokevirtual 48, 3) := by decide +kernel
theorem dX1_standing_14 : decode cX1_standing 14 = .ok (.ifCond .eq 7, 3) := by decide +kernel
theorem dX1_standing_17 : decode cX1_standing 17 = .ok (.iconst 1, 1) := by decide +kernel
theorem dX1_standing_18 : decode cX1_standing 18 = .ok (.goto 4, 3) := by decide +kernel
theorem dX1_standing_21 : decode cX1_standing 21 = .ok (.iconst 0, 1) := by decide +kernel
theorem dX1_standing_22 : decode cX1_standing 22 = .ok (.ireturn, 1) := by decide +kernel
theorem dX2_init_0 : decode cX2_init 0 = .ok (.aload_n 0, 1) := by decide +kernel
theorem dX2_init_1 : decode cX2_init 1 = .ok (.invokespecial 3, 3) := by decide +kernel
theorem dX2_init_4 : decode cX2_init 4 = .ok (.aload_n 0, 1) := by decide +kernel
theorem dX2_init_5 : decode cX2_init 5 = .ok (.sipush 160, 3) := by decide +kernel
theorem dX2_init_8 : decode cX2_init 8 = .ok (.newarray .int, 2) := by decide +kernel
theorem dX2_init_10 : decode cX2_init 10 = .ok (.putfield 9, 3) := by decide +kernel
theorem dX2_init_13 : decode cX2_init 13 = .ok (.aload_n 0, 1) := by decide +kernel
theorem dX2_init_14 : decode cX2_init 14 = .ok (.sipush 160, 3) := by decide +kernel
theorem dX2_init_17 : decode cX2_init 17 = .ok (.newarray .int, 2) := by decide +kernel
theorem dX2_init_19 : decode cX2_init 19 = .ok (.putfield 15, 3) := by decide +kernel
theorem dX2_init_22 : decode cX2_init 22 = .ok (.aload_n 0, 1) := by decide +kernel
theorem dX2_init_23 : decode cX2_init 23 = .ok (.bipush 12, 2) := by decide +kernel
theorem dX2_init_25 : decode cX2_init 25 = .ok (.newarray .int, 2) := by decide +kernel
theorem dX2_init_27 : decode cX2_init 27 = .ok (.putfield 18, 3) := by decide +kernel
theorem dX2_init_30 : decode cX2_init 30 = .ok (.aload_n 0, 1) := by decide +kernel
theorem dX2_init_31 : decode cX2_init 31 = .ok (.bipush 12, 2) := by decide +kernel
theorem dX2_init_33 : decode cX2_init 33 = .ok (.newarray .int, 2) := by decide +kernel
theorem dX2_init_35 : decode cX2_init 35 = .ok (.putfield 21, 3) := by decide +kernel
theorem dX2_init_38 : decode cX2_init 38 = .ok (.aload_n 0, 1) := by decide +kernel
theorem dX2_init_39 : decode cX2_init 39 = .ok (.bipush 12, 2) := by decide +kernel
theorem dX2_init_41 : decode cX2_init 41 = .ok (.newarray .int, 2) := by decide +kernel
theorem dX2_init_43 : decode cX2_init 43 = .ok (.putfield 24, 3) := by decide +kernel
theorem dX2_init_46 : decode cX2_init 46 = .ok (.aload_n 0, 1) := by decide +kernel
theorem dX2_init_47 : decode cX2_init 47 = .ok (.bipush 12, 2) := by decide +kernel
theorem dX2_init_49 : decode cX2_init 49 = .ok (.newarray .int, 2) := by decide +kernel
theorem dX2_init_51 : decode cX2_init 51 = .ok (.putfield 27, 3) := by decide +kernel
theorem dX2_init_54 : decode cX2_init 54 = .ok (.aload_n 0, 1) := by decide +kernel
theorem dX2_init_55 : decode cX2_init 55 = .ok (.bipush 32, 2) := by decide +kernel
theorem dX2_init_57 : decode cX2_init 57 = .ok (.newarray .int, 2) := by decide +kernel
theorem dX2_init_59 : decode cX2_init 59 = .ok (.putfield 30, 3) := by decide +kernel
theorem dX2_init_62 : decode cX2_init 62 = .ok (.return_, 1) := by decide +kernel
theorem dX2_clear_0 : decode cX2_clear 0 = .ok (.aload_n 0, 1) := by decide +kernel
theorem dX2_clear_1 : decode cX2_clear 1 = .ok (.iconst 0, 1) := by decide +kernel
theorem dX2_clear_2 : decode cX2_clear 2 = .ok (.putfield 33, 3) := by decide +kernel
theorem dX2_clear_5 : decode cX2_clear 5 = .ok (.aload_n 0, 1) := by decide +kernel
theorem dX2_clear_6 : decode cX2_clear 6 = .ok (.iconst 0, 1) := by decide +kernel
theorem dX2_clear_7 : decode cX2_clear 7 = .ok (.putfield 37, 3) := by decide +kernel
theorem dX2_clear_10 : decode cX2_clear 10 = .ok (.return_, 1) := by decide +kernel
theorem dX2_copyFrom_0 : decode cX2_copyFrom 0 = .ok (.aload_n 0, 1) := by decide +kernel
theorem dX2_copyFrom_1 : decode cX2_copyFrom 1 = .ok (.aload_n 1, 1) := by decide +kernel
theorem dX2_copyFrom_2 : decode cX2_copyFrom 2 = .ok (.getfield 33, 3) := by decide +kernel
theorem dX2_copyFrom_5 : decode cX2_copyFrom 5 = .ok (.putfield 33, 3) := by decide +kernel
theorem dX2_copyFrom_8 : decode cX2_copyFrom 8 = .ok (.aload_n 0, 1) := by decide +kernel
theorem dX2_copyFrom_9 : decode cX2_copyFrom 9 = .ok (.aload_n 1, 1) := by decide +kernel
theorem dX2_copyFrom_10 : decode cX2_copyFrom 10 = .ok (.getfield 37, 3) := by decide +kernel
theorem dX2_copyFrom_13 : decode cX2_copyFrom 13 = .ok (.putfield 37, 3) := by decide +kernel
theorem dX2_copyFrom_16 : decode cX2_copyFrom 16 = .ok (.aload_n 1, 1) := by decide +kernel
theorem dX2_copyFrom_17 : decode cX2_copyFrom 17 = .ok (.getfield 9, 3) := by decide +kernel
theorem dX2_copyFrom_20 : decode cX2_copyFrom 20 = .ok (.iconst 0, 1) := by decide +kernel
theorem dX2_copyFrom_21 : decode cX2_copyFrom 21 = .ok (.aload_n 0, 1) := by decide +kernel
theorem dX2_copyFrom_22 : decode cX2_copyFrom 22 = .ok (.getfield 9, 3) := by decide +kernel
theorem dX2_copyFrom_25 : decode cX2_copyFrom 25 = .ok (.iconst 0, 1) := by decide +kernel
theorem dX2_copyFrom_26 : decode cX2_copyFrom 26 = .ok (.sipush 160, 3) := by decide +kernel
theorem dX2_copyFrom_29 : decode cX2_copyFrom 29 = .ok (.invokestatic 40, 3) := by decide +kernel
theorem dX2_copyFrom_32 : decode cX2_copyFrom 32 = .ok (.aload_n 1, 1) := by decide +kernel
theorem dX2_copyFrom_33 : decode cX2_copyFrom 33 = .ok (.getfield 15, 3) := by decide +kernel
theorem dX2_copyFrom_36 : decode cX2_copyFrom 36 = .ok (.iconst 0, 1) := by decide +kernel
theorem dX2_copyFrom_37 : decode cX2_copyFrom 37 = .ok (.aload_n 0, 1) := by decide +kernel
theorem dX2_copyFrom_38 : decode cX2_copyFrom 38 = .ok (.getfield 15, 3) := by decide +kernel
theorem dX2_copyFrom_41 : decode cX2_copyFrom 41 = .ok (.iconst 0, 1) := by decide +kernel
theorem dX2_copyFrom_42 : decode cX2_copyFrom 42 = .ok (.sipush 160, 3) := by decide +kernel
theorem dX2_copyFrom_45 : decode cX2_copyFrom 45 = .ok (.invokestatic 40, 3) := by decide +kernel
theorem dX2_copyFrom_48 : decode cX2_copyFrom 48 = .ok (.aload_n 1, 1) := by decide +kernel
theorem dX2_copyFrom_49 : decode cX2_copyFrom 49 = .ok (.getfield 18, 3) := by decide +kernel
theorem dX2_copyFrom_52 : decode cX2_copyFrom 52 = .ok (.iconst 0, 1) := by decide +kernel
theorem dX2_copyFrom_53 : decode cX2_copyFrom 53 = .ok (.aload_n 0, 1) := by decide +kernel
theorem dX2_copyFrom_54 : decode cX2_copyFrom 54 = .ok (.getfield 18, 3) := by decide +kernel
theorem dX2_copyFrom_57 : decode cX2_copyFrom 57 = .ok (.iconst 0, 1) := by decide +kernel
theorem dX2_copyFrom_58 : decode cX2_copyFrom 58 = .ok (.bipush 12, 2) := by decide +kernel
theorem dX2_copyFrom_60 : decode cX2_copyFrom 60 = .ok (.invokestatic 40, 3) := by decide +kernel
theorem dX2_copyFrom_63 : decode cX2_copyFrom 63 = .ok (.aload_n 1, 1) := by decide +kernel
theorem dX2_copyFrom_64 : decode cX2_copyFrom 64 = .ok (.getfield 21, 3) := by decide +kernel
theorem dX2_copyFrom_67 : decode cX2_copyFrom 67 = .ok (.iconst 0, 1) := by decide +kernel
theorem dX2_copyFrom_68 : decode cX2_copyFrom 68 = .ok (.aload_n 0, 1) := by decide +kernel
theorem dX2_copyFrom_69 : decode cX2_copyFrom 69 = .ok (.getfield 21, 3) := by decide +kernel
theorem dX2_copyFrom_72 : decode cX2_copyFrom 72 = .ok (.iconst 0, 1) := by decide +kernel
theorem dX2_copyFrom_73 : decode cX2_copyFrom 73 = .ok (.bipush 12, 2) := by decide +kernel
theorem dX2_copyFrom_75 : decode cX2_copyFrom 75 = .ok (.invokestatic 40, 3) := by decide +kernel
theorem dX2_copyFrom_78 : decode cX2_copyFrom 78 = .ok (.aload_n 1, 1) := by decide +kernel
theorem dX2_copyFrom_79 : decode cX2_copyFrom 79 = .ok (.getfield 24, 3) := by decide +kernel
theorem dX2_copyFrom_82 : decode cX2_copyFrom 82 = .ok (.iconst 0, 1) := by decide +kernel
theorem dX2_copyFrom_83 : decode cX2_copyFrom 83 = .ok (.aload_n 0, 1) := by decide +kernel
theorem dX2_copyFrom_84 : decode cX2_copyFrom 84 = .ok (.getfield 24, 3) := by decide +kernel
theorem dX2_copyFrom_87 : decode cX2_copyFrom 87 = .ok (.iconst 0, 1) := by decide +kernel
theorem dX2_copyFrom_88 : decode cX2_copyFrom 88 = .ok (.bipush 12, 2) := by decide +kernel
theorem dX2_copyFrom_90 : decode cX2_copyFrom 90 = .ok (.invokestatic 40, 3) := by decide +kernel
theorem dX2_copyFrom_93 : decode cX2_copyFrom 93 = .ok (.aload_n 1, 1) := by decide +kernel
theorem dX2_copyFrom_94 : decode cX2_copyFrom 94 = .ok (.getfield 27, 3) := by decide +kernel
theorem dX2_copyFrom_97 : decode cX2_copyFrom 97 = .ok (.iconst 0, 1) := by decide +kernel
theorem dX2_copyFrom_98 : decode cX2_copyFrom 98 = .ok (.aload_n 0, 1) := by decide +kernel
theorem dX2_copyFrom_99 : decode cX2_copyFrom 99 = .ok (.getfield 27, 3) := by decide +kernel
theorem dX2_copyFrom_102 : decode cX2_copyFrom 102 = .ok (.iconst 0, 1) := by decide +kernel
theorem dX2_copyFrom_103 : decode cX2_copyFrom 103 = .ok (.bipush 12, 2) := by decide +kernel
theorem dX2_copyFrom_105 : decode cX2_copyFrom 105 = .ok (.invokestatic 40, 3) := by decide +kernel
theorem dX2_copyFrom_108 : decode cX2_copyFrom 108 = .ok (.return_, 1) := by decide +kernel
theorem dX2_addSign_0 : decode cX2_addSign 0 = .ok (.aload_n 0, 1) := by decide +kernel
theorem dX2_addSign_1 : decode cX2_addSign 1 = .ok (.getfield 37, 3) := by decide +kernel
theorem dX2_addSign_4 : decode cX2_addSign 4 = .ok (.istore_n 3, 1) := by decide +kernel
theorem dX2_addSign_5 : decode cX2_addSign 5 = .ok (.aload_n 0, 1) := by decide +kernel
theorem dX2_addSign_6 : decode cX2_addSign 6 = .ok (.getfield 37, 3) := by decide +kernel
theorem dX2_addSign_9 : decode cX2_addSign 9 = .ok (.sipush 160, 3) := by decide +kernel
theorem dX2_addSign_12 : decode cX2_addSign 12 = .ok (.if_icmp .ge 33, 3) := by decide +kernel
theorem dX2_addSign_15 : decode cX2_addSign 15 = .ok (.aload_n 0, 1) := by decide +kernel
theorem dX2_addSign_16 : decode cX2_addSign 16 = .ok (.getfield 9, 3) := by decide +kernel
theorem dX2_addSign_19 : decode cX2_addSign 19 = .ok (.aload_n 0, 1) := by decide +kernel
theorem dX2_addSign_20 : decode cX2_addSign 20 = .ok (.getfield 37, 3) := by decide +kernel
theorem dX2_addSign_23 : decode cX2_addSign 23 = .ok (.iload_n 1, 1) := by decide +kernel
theorem dX2_addSign_24 : decode cX2_addSign 24 = .ok (.iastore, 1) := by decide +kernel
theorem dX2_addSign_25 : decode cX2_addSign 25 = .ok (.aload_n 0, 1) := by decide +kernel
theorem dX2_addSign_26 : decode cX2_addSign 26 = .ok (.getfield 15, 3) := by decide +kernel
theorem dX2_addSign_29 : decode cX2_addSign 29 = .ok (.aload_n 0, 1) := by decide +kernel
theorem dX2_addSign_30 : decode cX2_addSign 30 = .ok (.getfield 37, 3) := by decide +kernel
theorem dX2_addSign_33 : decode cX2_addSign 33 = .ok (.iload_n 2, 1) := by decide +kernel
theorem dX2_addSign_34 : decode cX2_addSign 34 = .ok (.iastore, 1) := by decide +kernel
theorem dX2_addSign_35 : decode cX2_addSign 35 = .ok (.aload_n 0, 1) := by decide +kernel
theorem dX2_addSign_36 : decode cX2_addSign 36 = .ok (.dup, 1) := by decide +kernel
theorem dX2_addSign_37 : decode cX2_addSign 37 = .ok (.getfield 37, 3) := by decide +kernel
theorem dX2_addSign_40 : decode cX2_addSign 40 = .ok (.iconst 1, 1) := by decide +kernel
theorem dX2_addSign_41 : decode cX2_addSign 41 = .ok (.iadd, 1) := by decide +kernel
theorem dX2_addSign_42 : decode cX2_addSign 42 = .ok (.putfield 37, 3) := by decide +kernel
theorem dX2_addSign_45 : decode cX2_addSign 45 = .ok (.iload_n 3, 1) := by decide +kernel
theorem dX2_addSign_46 : decode cX2_addSign 46 = .ok (.ireturn, 1) := by decide +kernel
theorem dX2_leapToHere_0 : decode cX2_leapToHere 0 = .ok (.iload_n 1, 1) := by decide +kernel
theorem dX2_leapToHere_1 : decode cX2_leapToHere 1 = .ok (.ifCond .lt 21, 3) := by decide +kernel
theorem dX2_leapToHere_4 : decode cX2_leapToHere 4 = .ok (.iload_n 1, 1) := by decide +kernel
theorem dX2_leapToHere_5 : decode cX2_leapToHere 5 = .ok (.aload_n 0, 1) := by decide +kernel
theorem dX2_leapToHere_6 : decode cX2_leapToHere 6 = .ok (.getfield 37, 3) := by decide +kernel
theorem dX2_leapToHere_9 : decode cX2_leapToHere 9 = .ok (.if_icmp .ge 13, 3) := by decide +kernel
theorem dX2_leapToHere_12 : decode cX2_leapToHere 12 = .ok (.aload_n 0, 1) := by decide +kernel
theorem dX2_leapToHere_13 : decode cX2_leapToHere 13 = .ok (.getfield 15, 3) := by decide +kernel
theorem dX2_leapToHere_16 : decode cX2_leapToHere 16 = .ok (.iload_n 1, 1) := by decide +kernel
theorem dX2_leapToHere_17 : decode cX2_leapToHere 17 = .ok (.aload_n 0, 1) := by decide +kernel
theorem dX2_leapToHere_18 : decode cX2_leapToHere 18 = .ok (.getfield 37, 3) := by decide +kernel
theorem dX2_leapToHere_21 : decode cX2_leapToHere 21 = .ok (.iastore, 1) := by decide +kernel
theorem dX2_leapToHere_22 : decode cX2_leapToHere 22 = .ok (.return_, 1) := by decide +kernel
theorem dX2_beginClause_0 : decode cX2_beginClause 0 = .ok (.aload_n 0, 1) := by decide +kernel
theorem dX2_beginClause_1 : decode cX2_beginClause 1 = .ok (.getfield 33, 3) := by decide +kernel
theorem dX2_beginClause_4 : decode cX2_beginClause 4 = .ok (.bipush 12, 2) := by decide +kernel
theorem dX2_beginClause_6 : decode cX2_beginClause 6 = .ok (.if_icmp .ge 26, 3) := by decide +kernel
theorem dX2_beginClause_9 : decode cX2_beginClause 9 = .ok (.aload_n 0, 1) := by decide +kernel
theorem dX2_beginClause_10 : decode cX2_beginClause 10 = .ok (.getfield 18, 3) := by decide +kernel
theorem dX2_beginClause_13 : decode cX2_beginClause 13 = .ok (.aload_n 0, 1) := by decide +kernel
theorem dX2_beginClause_14 : decode cX2_beginClause 14 = .ok (.getfield 33, 3) := by decide +kernel
theorem dX2_beginClause_17 : decode cX2_beginClause 17 = .ok (.iload_n 1, 1) := by decide +kernel
theorem dX2_beginClause_18 : decode cX2_beginClause 18 = .ok (.iastore, 1) := by decide +kernel
theorem dX2_beginClause_19 : decode cX2_beginClause 19 = .ok (.aload_n 0, 1) := by decide +kernel
theorem dX2_beginClause_20 : decode cX2_beginClause 20 = .ok (.getfield 21, 3) := by decide +kernel
theorem dX2_beginClause_23 : decode cX2_beginClause 23 = .ok (.aload_n 0, 1) := by decide +kernel
theorem dX2_beginClause_24 : decode cX2_beginClause 24 = .ok (.getfield 33, 3) := by decide +kernel
theorem dX2_beginClause_27 : decode cX2_beginClause 27 = .ok (.aload_n 0, 1) := by decide +kernel
theorem dX2_beginClause_28 : decode cX2_beginClause 28 = .ok (.getfield 37, 3) := by decide +kernel
theorem dX2_beginClause_31 : decode cX2_beginClause 31 = .ok (.iastore, 1) := by decide +kernel
theorem dX2_beginClause_32 : decode cX2_beginClause 32 = .ok (.return_, 1) := by decide +kernel
theorem dX2_beginCondition_0 : decode cX2_beginCondition 0 = .ok (.aload_n 0, 1) := by decide +kernel
theorem dX2_beginCondition_1 : decode cX2_beginCondition 1 = .ok (.getfield 33, 3) := by decide +kernel
theorem dX2_beginCondition_4 : decode cX2_beginCondition 4 = .ok (.bipush 12, 2) := by decide +kernel
theorem dX2_beginCondition_6 : decode cX2_beginCondition 6 = .ok (.if_icmp .ge 16, 3) := by decide +kernel
theorem dX2_beginCondition_9 : decode cX2_beginCondition 9 = .ok (.aload_n 0, 1) := by decide +kernel
theorem dX2_beginCondition_10 : decode cX2_beginCondition 10 = .ok (.getfield 24, 3) := by decide +kernel
theorem dX2_beginCondition_13 : decode cX2_beginCondition 13 = .ok (.aload_n 0, 1) := by decide +kernel
theorem dX2_beginCondition_14 : decode cX2_beginCondition 14 = .ok (.getfield 33, 3) := by decide +kernel
theorem dX2_beginCondition_17 : decode cX2_beginCondition 17 = .ok (.aload_n 0, 1) := by decide +kernel
theorem dX2_beginCondition_18 : decode cX2_beginCondition 18 = .ok (.getfield 37, 3) := by decide +kernel
theorem dX2_beginCondition_21 : decode cX2_beginCondition 21 = .ok (.iastore, 1) := by decide +kernel
theorem dX2_beginCondition_22 : decode cX2_beginCondition 22 = .ok (.return_, 1) := by decide +kernel
theorem dX2_endClause_0 : decode cX2_endClause 0 = .ok (.aload_n 0, 1) := by decide +kernel
theorem dX2_endClause_1 : decode cX2_endClause 1 = .ok (.getfield 33, 3) := by decide +kernel
theorem dX2_endClause_4 : decode cX2_endClause 4 = .ok (.bipush 12, 2) := by decide +kernel
theorem dX2_endClause_6 : decode cX2_endClause 6 = .ok (.if_icmp .ge 26, 3) := by decide +kernel
theorem dX2_endClause_9 : decode cX2_endClause 9 = .ok (.aload_n 0, 1) := by decide +kernel
theorem dX2_endClause_10 : decode cX2_endClause 10 = .ok (.getfield 27, 3) := by decide +kernel
theorem dX2_endClause_13 : decode cX2_endClause 13 = .ok (.aload_n 0, 1) := by decide +kernel
theorem dX2_endClause_14 : decode cX2_endClause 14 = .ok (.getfield 33, 3) := by decide +kernel
theorem dX2_endClause_17 : decode cX2_endClause 17 = .ok (.aload_n 0, 1) := by decide +kernel
theorem dX2_endClause_18 : decode cX2_endClause 18 = .ok (.getfield 37, 3) := by decide +kernel
theorem dX2_endClause_21 : decode cX2_endClause 21 = .ok (.iastore, 1) := by decide +kernel
theorem dX2_endClause_22 : decode cX2_endClause 22 = .ok (.aload_n 0, 1) := by decide +kernel
theorem dX2_endClause_23 : decode cX2_endClause 23 = .ok (.dup, 1) := by decide +kernel
theorem dX2_endClause_24 : decode cX2_endClause 24 = .ok (.getfield 33, 3) := by decide +kernel
theorem dX2_endClause_27 : decode cX2_endClause 27 = .ok (.iconst 1, 1) := by decide +kernel
theorem dX2_endClause_28 : decode cX2_endClause 28 = .ok (.iadd, 1) := by decide +kernel
theorem dX2_endClause_29 : decode cX2_endClause 29 = .ok (.putfield 33, 3) := by decide +kernel
theorem dX2_endClause_32 : decode cX2_endClause 32 = .ok (.return_, 1) := by decide +kernel
theorem dX2_anyHolds_0 : decode cX2_anyHolds 0 = .ok (.iconst 0, 1) := by decide +kernel
theorem dX2_anyHolds_1 : decode cX2_anyHolds 1 = .ok (.istore_n 3, 1) := by decide +kernel
theorem dX2_anyHolds_2 : decode cX2_anyHolds 2 = .ok (.iload_n 3, 1) := by decide +kernel
theorem dX2_anyHolds_3 : decode cX2_anyHolds 3 = .ok (.aload_n 0, 1) := by decide +kernel
theorem dX2_anyHolds_4 : decode cX2_anyHolds 4 = .ok (.getfield 33, 3) := by decide +kernel
theorem dX2_anyHolds_7 : decode cX2_anyHolds 7 = .ok (.if_icmp .ge 41, 3) := by decide +kernel
theorem dX2_anyHolds_10 : decode cX2_anyHolds 10 = .ok (.aload_n 0, 1) := by decide +kernel
theorem dX2_anyHolds_11 : decode cX2_anyHolds 11 = .ok (.getfield 18, 3) := by decide +kernel
theorem dX2_anyHolds_14 : decode cX2_anyHolds 14 = .ok (.iload_n 3, 1) := by decide +kernel
theorem dX2_anyHolds_15 : decode cX2_anyHolds 15 = .ok (.iaload, 1) := by decide +kernel
theorem dX2_anyHolds_16 : decode cX2_anyHolds 16 = .ok (.iload_n 1, 1) := by decide +kernel
theorem dX2_anyHolds_17 : decode cX2_anyHolds 17 = .ok (.if_icmp .ne 25, 3) := by decide +kernel
theorem dX2_anyHolds_20 : decode cX2_anyHolds 20 = .ok (.aload_n 0, 1) := by decide +kernel
theorem dX2_anyHolds_21 : decode cX2_anyHolds 21 = .ok (.aload_n 0, 1) := by decide +kernel
theorem dX2_anyHolds_22 : decode cX2_anyHolds 22 = .ok (.getfield 24, 3) := by decide +kernel
theorem dX2_anyHolds_25 : decode cX2_anyHolds 25 = .ok (.iload_n 3, 1) := by decide +kernel
theorem dX2_anyHolds_26 : decode cX2_anyHolds 26 = .ok (.iaload, 1) := by decide +kernel
theorem dX2_anyHolds_27 : decode cX2_anyHolds 27 = .ok (.aload_n 0, 1) := by decide +kernel
theorem dX2_anyHolds_28 : decode cX2_anyHolds 28 = .ok (.getfield 27, 3) := by decide +kernel
theorem dX2_anyHolds_31 : decode cX2_anyHolds 31 = .ok (.iload_n 3, 1) := by decide +kernel
theorem dX2_anyHolds_32 : decode cX2_anyHolds 32 = .ok (.iaload, 1) := by decide +kernel
theorem dX2_anyHolds_33 : decode cX2_anyHolds 33 = .ok (.aload_n 2, 1) := by decide +kernel
theorem dX2_anyHolds_34 : decode cX2_anyHolds 34 = .ok (.invokevirtual 46, 3) := by decide +kernel
theorem dX2_anyHolds_37 : decode cX2_anyHolds 37 = .ok (.ifCond .eq 5, 3) := by decide +kernel
theorem dX2_anyHolds_40 : decode cX2_anyHolds 40 = .ok (.iconst 1, 1) := by decide +kernel
theorem dX2_anyHolds_41 : decode cX2_anyHolds 41 = .ok (.ireturn, 1) := by decide +kernel
theorem dX2_anyHolds_42 : decode cX2_anyHolds 42 = .ok (.iinc 3 1, 3) := by decide +kernel
theorem dX2_anyHolds_45 : decode cX2_anyHolds 45 = .ok (.goto (-43), 3) := by decide +kernel
theorem dX2_anyHolds_48 : decode cX2_anyHolds 48 = .ok (.iconst 0, 1) := by decide +kernel
theorem dX2_anyHolds_49 : decode cX2_anyHolds 49 = .ok (.ireturn, 1) := by decide +kernel
theorem dX2_firstWorth_0 : decode cX2_firstWorth 0 = .ok (.iconst 0, 1) := by decide +kernel
theorem dX2_firstWorth_1 : decode cX2_firstWorth 1 = .ok (.istore 4, 2) := by decide +kernel
theorem dX2_firstWorth_3 : decode cX2_firstWorth 3 = .ok (.iload 4, 2) := by decide +kernel
theorem dX2_firstWorth_5 : decode cX2_firstWorth 5 = .ok (.aload_n 0, 1) := by decide +kernel
theorem dX2_firstWorth_6 : decode cX2_firstWorth 6 = .ok (.getfield 33, 3) := by decide +kernel
theorem dX2_firstWorth_9 : decode cX2_firstWorth 9 = .ok (.if_icmp .ge 74, 3) := by decide +kernel
theorem dX2_firstWorth_12 : decode cX2_firstWorth 12 = .ok (.aload_n 0, 1) := by decide +kernel
theorem dX2_firstWorth_13 : decode cX2_firstWorth 13 = .ok (.getfield 18, 3) := by decide +kernel
theorem dX2_firstWorth_16 : decode cX2_firstWorth 16 = .ok (.iload 4, 2) := by decide +kernel
theorem dX2_firstWorth_18 : decode cX2_firstWorth 18 = .ok (.iaload, 1) := by decide +kernel
theorem dX2_firstWorth_19 : decode cX2_firstWorth 19 = .ok (.iload_n 1, 1) := by decide +kernel
theorem dX2_firstWorth_20 : decode cX2_firstWorth 20 = .ok (.if_icmp .ne 57, 3) := by decide +kernel
theorem dX2_firstWorth_23 : decode cX2_firstWorth 23 = .ok (.aload_n 0, 1) := by decide +kernel
theorem dX2_firstWorth_24 : decode cX2_firstWorth 24 = .ok (.aload_n 0, 1) := by decide +kernel
theorem dX2_firstWorth_25 : decode cX2_firstWorth 25 = .ok (.getfield 24, 3) := by decide +kernel
theorem dX2_firstWorth_28 : decode cX2_firstWorth 28 = .ok (.iload 4, 2) := by decide +kernel
theorem dX2_firstWorth_30 : decode cX2_firstWorth 30 = .ok (.iaload, 1) := by decide +kernel
theorem dX2_firstWorth_31 : decode cX2_firstWorth 31 = .ok (.aload_n 0, 1) := by decide +kernel
theorem dX2_firstWorth_32 : decode cX2_firstWorth 32 = .ok (.getfield 27, 3) := by decide +kernel
theorem dX2_firstWorth_35 : decode cX2_firstWorth 35 = .ok (.iload 4, 2) := by decide +kernel
theorem dX2_firstWorth_37 : decode cX2_firstWorth 37 = .ok (.iaload, 1) := by decide +kernel
theorem dX2_firstWorth_38 : decode cX2_firstWorth 38 = .ok (.aload_n 3, 1) := by decide +kernel
theorem dX2_firstWorth_39 : decode cX2_firstWorth 39 = .ok (.invokevirtual 46, 3) := by decide +kernel
theorem dX2_firstWorth_42 : decode cX2_firstWorth 42 = .ok (.ifCond .eq 35, 3) := by decide +kernel
theorem dX2_firstWorth_45 : decode cX2_firstWorth 45 = .ok (.aload_n 0, 1) := by decide +kernel
theorem dX2_firstWorth_46 : decode cX2_firstWorth 46 = .ok (.aload_n 0, 1) := by decide +kernel
theorem dX2_firstWorth_47 : decode cX2_firstWorth 47 = .ok (.getfield 21, 3) := by decide +kernel
theorem dX2_firstWorth_50 : decode cX2_firstWorth 50 = .ok (.iload 4, 2) := by decide +kernel
theorem dX2_firstWorth_52 : decode cX2_firstWorth 52 = .ok (.iaload, 1) := by decide +kernel
theorem dX2_firstWorth_53 : decode cX2_firstWorth 53 = .ok (.aload_n 0, 1) := by decide +kernel
theorem dX2_firstWorth_54 : decode cX2_firstWorth 54 = .ok (.getfield 24, 3) := by decide +kernel
theorem dX2_firstWorth_57 : decode cX2_firstWorth 57 = .ok (.iload 4, 2) := by decide +kernel
theorem dX2_firstWorth_59 : decode cX2_firstWorth 59 = .ok (.iaload, 1) := by decide +kernel
theorem dX2_firstWorth_60 : decode cX2_firstWorth 60 = .ok (.aload_n 3, 1) := by decide +kernel
theorem dX2_firstWorth_61 : decode cX2_firstWorth 61 = .ok (.invokevirtual 46, 3) := by decide +kernel
theorem dX2_firstWorth_64 : decode cX2_firstWorth 64 = .ok (.istore 5, 2) := by decide +kernel
theorem dX2_firstWorth_66 : decode cX2_firstWorth 66 = .ok (.iconst 0, 1) := by decide +kernel
theorem dX2_firstWorth_67 : decode cX2_firstWorth 67 = .ok (.iload_n 2, 1) := by decide +kernel
theorem dX2_firstWorth_68 : decode cX2_firstWorth 68 = .ok (.iload 5, 2) := by decide +kernel
theorem dX2_firstWorth_70 : decode cX2_firstWorth 70 = .ok (.invokestatic 50, 3) := by decide +kernel
theorem dX2_firstWorth_73 : decode cX2_firstWorth 73 = .ok (.invokestatic 56, 3) := by decide +kernel
theorem dX2_firstWorth_76 : decode cX2_firstWorth 76 = .ok (.ireturn, 1) := by decide +kernel
theorem dX2_firstWorth_77 : decode cX2_firstWorth 77 = .ok (.iinc 4 1, 3) := by decide +kernel
theorem dX2_firstWorth_80 : decode cX2_firstWorth 80 = .ok (.goto (-77), 3) := by decide +kernel
theorem dX2_firstWorth_83 : decode cX2_firstWorth 83 = .ok (.iconst 0, 1) := by decide +kernel
theorem dX2_firstWorth_84 : decode cX2_firstWorth 84 = .ok (.ireturn, 1) := by decide +kernel
theorem dX2_worth_0 : decode cX2_worth 0 = .ok (.iconst 0, 1) := by decide +kernel
theorem dX2_worth_1 : decode cX2_worth 1 = .ok (.istore 4, 2) := by decide +kernel
theorem dX2_worth_3 : decode cX2_worth 3 = .ok (.iload_n 1, 1) := by decide +kernel
theorem dX2_worth_4 : decode cX2_worth 4 = .ok (.istore 5, 2) := by decide +kernel
theorem dX2_worth_6 : decode cX2_worth 6 = .ok (.iconst 0, 1) := by decide +kernel
theorem dX2_worth_7 : decode cX2_worth 7 = .ok (.istore 6, 2) := by decide +kernel
theorem dX2_worth_9 : decode cX2_worth 9 = .ok (.iload 6, 2) := by decide +kernel
theorem dX2_worth_11 : decode cX2_worth 11 = .ok (.sipush 160, 3) := by decide +kernel
theorem dX2_worth_14 : decode cX2_worth 14 = .ok (.if_icmp .ge 296, 3) := by decide +kernel
theorem dX2_worth_17 : decode cX2_worth 17 = .ok (.iload 5, 2) := by decide +kernel
theorem dX2_worth_19 : decode cX2_worth 19 = .ok (.ifCond .lt 291, 3) := by decide +kernel
theorem dX2_worth_22 : decode cX2_worth 22 = .ok (.iload 5, 2) := by decide +kernel
theorem dX2_worth_24 : decode cX2_worth 24 = .ok (.iload_n 2, 1) := by decide +kernel
theorem dX2_worth_25 : decode cX2_worth 25 = .ok (.if_icmp .ge 285, 3) := by decide +kernel
theorem dX2_worth_28 : decode cX2_worth 28 = .ok (.aload_n 0, 1) := by decide +kernel
theorem dX2_worth_29 : decode cX2_worth 29 = .ok (.getfield 9, 3) := by decide +kernel
theorem dX2_worth_32 : decode cX2_worth 32 = .ok (.iload 5, 2) := by decide +kernel
theorem dX2_worth_34 : decode cX2_worth 34 = .ok (.iaload, 1) := by decide +kernel
theorem dX2_worth_35 : decode cX2_worth 35 = .ok (.istore 7, 2) := by decide +kernel
theorem dX2_worth_37 : decode cX2_worth 37 = .ok (.iload 4, 2) := by decide +kernel
theorem dX2_worth_39 : decode cX2_worth 39 = .ok (.ifCond .le 39, 3) := by decide +kernel
theorem dX2_worth_42 : decode cX2_worth 42 = .ok (.aload_n 0, 1) := by decide +kernel
theorem dX2_worth_43 : decode cX2_worth 43 = .ok (.getfield 30, 3) := by decide +kernel
theorem dX2_worth_46 : decode cX2_worth 46 = .ok (.iload 4, 2) := by decide +kernel
theorem dX2_worth_48 : decode cX2_worth 48 = .ok (.iconst 1, 1) := by decide +kernel
theorem dX2_worth_49 : decode cX2_worth 49 = .ok (.isub, 1) := by decide +kernel
theorem dX2_worth_50 : decode cX2_worth 50 = .ok (.iaload, 1) := by decide +kernel
theorem dX2_worth_51 : decode cX2_worth 51 = .ok (.ifCond .eq 7, 3) := by decide +kernel
theorem dX2_worth_54 : decode cX2_worth 54 = .ok (.iconst 1, 1) := by decide +kernel
theorem dX2_worth_55 : decode cX2_worth 55 = .ok (.goto 4, 3) := by decide +kernel
theorem dX2_worth_58 : decode cX2_worth 58 = .ok (.iconst 0, 1) := by decide +kernel
theorem dX2_worth_59 : decode cX2_worth 59 = .ok (.iload 7, 2) := by decide +kernel
theorem dX2_worth_61 : decode cX2_worth 61 = .ok (.bipush 124, 2) := by decide +kernel
theorem dX2_worth_63 : decode cX2_worth 63 = .ok (.if_icmp .ne 7, 3) := by decide +kernel
theorem dX2_worth_66 : decode cX2_worth 66 = .ok (.iconst 1, 1) := by decide +kernel
theorem dX2_worth_67 : decode cX2_worth 67 = .ok (.goto 4, 3) := by decide +kernel
theorem dX2_worth_70 : decode cX2_worth 70 = .ok (.iconst 0, 1) := by decide +kernel
theorem dX2_worth_71 : decode cX2_worth 71 = .ok (.if_icmp .ne 7, 3) := by decide +kernel
theorem dX2_worth_74 : decode cX2_worth 74 = .ok (.iconst 1, 1) := by decide +kernel
theorem dX2_worth_75 : decode cX2_worth 75 = .ok (.goto 4, 3) := by decide +kernel
theorem dX2_worth_78 : decode cX2_worth 78 = .ok (.iconst 0, 1) := by decide +kernel
theorem dX2_worth_79 : decode cX2_worth 79 = .ok (.istore 8, 2) := by decide +kernel
theorem dX2_worth_81 : decode cX2_worth 81 = .ok (.iload 7, 2) := by decide +kernel
theorem dX2_worth_83 : decode cX2_worth 83 = .ok (.bipush 48, 2) := by decide +kernel
theorem dX2_worth_85 : decode cX2_worth 85 = .ok (.if_icmp .eq 10, 3) := by decide +kernel
theorem dX2_worth_88 : decode cX2_worth 88 = .ok (.iload 7, 2) := by decide +kernel
theorem dX2_worth_90 : decode cX2_worth 90 = .ok (.bipush 97, 2) := by decide +kernel
theorem dX2_worth_92 : decode cX2_worth 92 = .ok (.if_icmp .ne 55, 3) := by decide +kernel
theorem dX2_worth_95 : decode cX2_worth 95 = .ok (.iload 4, 2) := by decide +kernel
theorem dX2_worth_97 : decode cX2_worth 97 = .ok (.iconst 1, 1) := by decide +kernel
theorem dX2_worth_98 : decode cX2_worth 98 = .ok (.iadd, 1) := by decide +kernel
theorem dX2_worth_99 : decode cX2_worth 99 = .ok (.bipush 32, 2) := by decide +kernel
theorem dX2_worth_101 : decode cX2_worth 101 = .ok (.invokestatic 50, 3) := by decide +kernel
theorem dX2_worth_104 : decode cX2_worth 104 = .ok (.istore 4, 2) := by decide +kernel
theorem dX2_worth_106 : decode cX2_worth 106 = .ok (.aload_n 0, 1) := by decide +kernel
theorem dX2_worth_107 : decode cX2_worth 107 = .ok (.getfield 30, 3) := by decide +kernel
theorem dX2_worth_110 : decode cX2_worth 110 = .ok (.iload 4, 2) := by decide +kernel
theorem dX2_worth_112 : decode cX2_worth 112 = .ok (.iconst 1, 1) := by decide +kernel
theorem dX2_worth_113 : decode cX2_worth 113 = .ok (.isub, 1) := by decide +kernel
theorem dX2_worth_114 : decode cX2_worth 114 = .ok (.iload 7, 2) := by decide +kernel
theorem dX2_worth_116 : decode cX2_worth 116 = .ok (.bipush 48, 2) := by decide +kernel
theorem dX2_worth_118 : decode cX2_worth 118 = .ok (.if_icmp .ne 13, 3) := by decide +kernel
theorem dX2_worth_121 : decode cX2_worth 121 = .ok (.aload_n 0, 1) := by decide +kernel
theorem dX2_worth_122 : decode cX2_worth 122 = .ok (.getfield 15, 3) := by decide +kernel
theorem dX2_worth_125 : decode cX2_worth 125 = .ok (.iload 5, 2) := by decide +kernel
theorem dX2_worth_127 : decode cX2_worth 127 = .ok (.iaload, 1) := by decide +kernel
theorem dX2_worth_128 : decode cX2_worth 128 = .ok (.goto 12, 3) := by decide +kernel
theorem dX2_worth_131 : decode cX2_worth 131 = .ok (.aload_n 3, 1) := by decide +kernel
theorem dX2_worth_132 : decode cX2_worth 132 = .ok (.aload_n 0, 1) := by decide +kernel
theorem dX2_worth_133 : decode cX2_worth 133 = .ok (.getfield 15, 3) := by decide +kernel
theorem dX2_worth_136 : decode cX2_worth 136 = .ok (.iload 5, 2) := by decide +kernel
theorem dX2_worth_138 : decode cX2_worth 138 = .ok (.iaload, 1) := by decide +kernel
theorem dX2_worth_139 : decode cX2_worth 139 = .ok (.iaload, 1) := by decide +kernel
theorem dX2_worth_140 : decode cX2_worth 140 = .ok (.iastore, 1) := by decide +kernel
theorem dX2_worth_141 : decode cX2_worth 141 = .ok (.iinc 5 1, 3) := by decide +kernel
theorem dX2_worth_144 : decode cX2_worth 144 = .ok (.goto 160, 3) := by decide +kernel
theorem dX2_worth_147 : decode cX2_worth 147 = .ok (.iload 7, 2) := by decide +kernel
theorem dX2_worth_149 : decode cX2_worth 149 = .ok (.bipush 124, 2) := by decide +kernel
theorem dX2_worth_151 : decode cX2_worth 151 = .ok (.if_icmp .eq 10, 3) := by decide +kernel
theorem dX2_worth_154 : decode cX2_worth 154 = .ok (.iload 7, 2) := by decide +kernel
theorem dX2_worth_156 : decode cX2_worth 156 = .ok (.bipush 38, 2) := by decide +kernel
theorem dX2_worth_158 : decode cX2_worth 158 = .ok (.if_icmp .ne 47, 3) := by decide +kernel
theorem dX2_worth_161 : decode cX2_worth 161 = .ok (.iload 8, 2) := by decide +kernel
theorem dX2_worth_163 : decode cX2_worth 163 = .ok (.ifCond .eq 8, 3) := by decide +kernel
theorem dX2_worth_166 : decode cX2_worth 166 = .ok (.iload 4, 2) := by decide +kernel
theorem dX2_worth_168 : decode cX2_worth 168 = .ok (.goto 11, 3) := by decide +kernel
theorem dX2_worth_171 : decode cX2_worth 171 = .ok (.iload 4, 2) := by decide +kernel
theorem dX2_worth_173 : decode cX2_worth 173 = .ok (.iconst 1, 1) := by decide +kernel
theorem dX2_worth_174 : decode cX2_worth 174 = .ok (.isub, 1) := by decide +kernel
theorem dX2_worth_175 : decode cX2_worth 175 = .ok (.iconst 0, 1) := by decide +kernel
theorem dX2_worth_176 : decode cX2_worth 176 = .ok (.invokestatic 56, 3) := by decide +kernel
theorem dX2_worth_179 : decode cX2_worth 179 = .ok (.istore 4, 2) := by decide +kernel
theorem dX2_worth_181 : decode cX2_worth 181 = .ok (.iload 8, 2) := by decide +kernel
theorem dX2_worth_183 : decode cX2_worth 183 = .ok (.ifCond .eq 13, 3) := by decide +kernel
theorem dX2_worth_186 : decode cX2_worth 186 = .ok (.aload_n 0, 1) := by decide +kernel
theorem dX2_worth_187 : decode cX2_worth 187 = .ok (.getfield 15, 3) := by decide +kernel
theorem dX2_worth_190 : decode cX2_worth 190 = .ok (.iload 5, 2) := by decide +kernel
theorem dX2_worth_192 : decode cX2_worth 192 = .ok (.iaload, 1) := by decide +kernel
theorem dX2_worth_193 : decode cX2_worth 193 = .ok (.goto 7, 3) := by decide +kernel
theorem dX2_worth_196 : decode cX2_worth 196 = .ok (.iload 5, 2) := by decide +kernel
theorem dX2_worth_198 : decode cX2_worth 198 = .ok (.iconst 1, 1) := by decide +kernel
theorem dX2_worth_199 : decode cX2_worth 199 = .ok (.iadd, 1) := by decide +kernel
theorem dX2_worth_200 : decode cX2_worth 200 = .ok (.istore 5, 2) := by decide +kernel
theorem dX2_worth_202 : decode cX2_worth 202 = .ok (.goto 102, 3) := by decide +kernel
theorem dX2_worth_205 : decode cX2_worth 205 = .ok (.iload 7, 2) := by decide +kernel
theorem dX2_worth_207 : decode cX2_worth 207 = .ok (.bipush 33, 2) := by decide +kernel
theorem dX2_worth_209 : decode cX2_worth 209 = .ok (.if_icmp .ne 34, 3) := by decide +kernel
theorem dX2_worth_212 : decode cX2_worth 212 = .ok (.iload 4, 2) := by decide +kernel
theorem dX2_worth_214 : decode cX2_worth 214 = .ok (.ifCond .le 29, 3) := by decide +kernel
theorem dX2_worth_217 : decode cX2_worth 217 = .ok (.aload_n 0, 1) := by decide +kernel
theorem dX2_worth_218 : decode cX2_worth 218 = .ok (.getfield 30, 3) := by decide +kernel
theorem dX2_worth_221 : decode cX2_worth 221 = .ok (.iload 4, 2) := by decide +kernel
theorem dX2_worth_223 : decode cX2_worth 223 = .ok (.iconst 1, 1) := by decide +kernel
theorem dX2_worth_224 : decode cX2_worth 224 = .ok (.isub, 1) := by decide +kernel
theorem dX2_worth_225 : decode cX2_worth 225 = .ok (.iconst 1, 1) := by decide +kernel
theorem dX2_worth_226 : decode cX2_worth 226 = .ok (.aload_n 0, 1) := by decide +kernel
theorem dX2_worth_227 : decode cX2_worth 227 = .ok (.getfield 30, 3) := by decide +kernel
theorem dX2_worth_230 : decode cX2_worth 230 = .ok (.iload 4, 2) := by decide +kernel
theorem dX2_worth_232 : decode cX2_worth 232 = .ok (.iconst 1, 1) := by decide +kernel
theorem dX2_worth_233 : decode cX2_worth 233 = .ok (.isub, 1) := by decide +kernel
theorem dX2_worth_234 : decode cX2_worth 234 = .ok (.iaload, 1) := by decide +kernel
theorem dX2_worth_235 : decode cX2_worth 235 = .ok (.isub, 1) := by decide +kernel
theorem dX2_worth_236 : decode cX2_worth 236 = .ok (.iastore, 1) := by decide +kernel
theorem dX2_worth_237 : decode cX2_worth 237 = .ok (.iinc 5 1, 3) := by decide +kernel
theorem dX2_worth_240 : decode cX2_worth 240 = .ok (.goto 64, 3) := by decide +kernel
theorem dX2_worth_243 : decode cX2_worth 243 = .ok (.iload 4, 2) := by decide +kernel
theorem dX2_worth_245 : decode cX2_worth 245 = .ok (.iconst 2, 1) := by decide +kernel
theorem dX2_worth_246 : decode cX2_worth 246 = .ok (.if_icmp .lt 20, 3) := by decide +kernel
theorem dX2_worth_249 : decode cX2_worth 249 = .ok (.iload 7, 2) := by decide +kernel
theorem dX2_worth_251 : decode cX2_worth 251 = .ok (.aload_n 0, 1) := by decide +kernel
theorem dX2_worth_252 : decode cX2_worth 252 = .ok (.getfield 30, 3) := by decide +kernel
theorem dX2_worth_255 : decode cX2_worth 255 = .ok (.iload 4, 2) := by decide +kernel
theorem dX2_worth_257 : decode cX2_worth 257 = .ok (.iconst 1, 1) := by decide +kernel
theorem dX2_worth_258 : decode cX2_worth 258 = .ok (.isub, 1) := by decide +kernel
theorem dX2_worth_259 : decode cX2_worth 259 = .ok (.iaload, 1) := by decide +kernel
theorem dX2_worth_260 : decode cX2_worth 260 = .ok (.invokestatic 59, 3) := by decide +kernel
theorem dX2_worth_263 : decode cX2_worth 263 = .ok (.ifCond .eq 5, 3) := by decide +kernel
theorem dX2_worth_266 : decode cX2_worth 266 = .ok (.iconst 0, 1) := by decide +kernel
theorem dX2_worth_267 : decode cX2_worth 267 = .ok (.ireturn, 1) := by decide +kernel
theorem dX2_worth_268 : decode cX2_worth 268 = .ok (.iinc 4 (-1), 3) := by decide +kernel
theorem dX2_worth_271 : decode cX2_worth 271 = .ok (.aload_n 0, 1) := by decide +kernel
theorem dX2_worth_272 : decode cX2_worth 272 = .ok (.getfield 30, 3) := by decide +kernel
theorem dX2_worth_275 : decode cX2_worth 275 = .ok (.iload 4, 2) := by decide +kernel
theorem dX2_worth_277 : decode cX2_worth 277 = .ok (.iconst 1, 1) := by decide +kernel
theorem dX2_worth_278 : decode cX2_worth 278 = .ok (.isub, 1) := by decide +kernel
theorem dX2_worth_279 : decode cX2_worth 279 = .ok (.iload 7, 2) := by decide +kernel
theorem dX2_worth_281 : decode cX2_worth 281 = .ok (.aload_n 0, 1) := by decide +kernel
theorem dX2_worth_282 : decode cX2_worth 282 = .ok (.getfield 30, 3) := by decide +kernel
theorem dX2_worth_285 : decode cX2_worth 285 = .ok (.iload 4, 2) := by decide +kernel
theorem dX2_worth_287 : decode cX2_worth 287 = .ok (.iconst 1, 1) := by decide +kernel
theorem dX2_worth_288 : decode cX2_worth 288 = .ok (.isub, 1) := by decide +kernel
theorem dX2_worth_289 : decode cX2_worth 289 = .ok (.iaload, 1) := by decide +kernel
theorem dX2_worth_290 : decode cX2_worth 290 = .ok (.aload_n 0, 1) := by decide +kernel
theorem dX2_worth_291 : decode cX2_worth 291 = .ok (.getfield 30, 3) := by decide +kernel
theorem dX2_worth_294 : decode cX2_worth 294 = .ok (.iload 4, 2) := by decide +kernel
theorem dX2_worth_296 : decode cX2_worth 296 = .ok (.iaload, 1) := by decide +kernel
theorem dX2_worth_297 : decode cX2_worth 297 = .ok (.invokestatic 63, 3) := by decide +kernel
theorem dX2_worth_300 : decode cX2_worth 300 = .ok (.iastore, 1) := by decide +kernel
theorem dX2_worth_301 : decode cX2_worth 301 = .ok (.iinc 5 1, 3) := by decide +kernel
theorem dX2_worth_304 : decode cX2_worth 304 = .ok (.iinc 6 1, 3) := by decide +kernel
theorem dX2_worth_307 : decode cX2_worth 307 = .ok (.goto (-298), 3) := by decide +kernel
theorem dX2_worth_310 : decode cX2_worth 310 = .ok (.iload 4, 2) := by decide +kernel
theorem dX2_worth_312 : decode cX2_worth 312 = .ok (.ifCond .le 15, 3) := by decide +kernel
theorem dX2_worth_315 : decode cX2_worth 315 = .ok (.aload_n 0, 1) := by decide +kernel
theorem dX2_worth_316 : decode cX2_worth 316 = .ok (.getfield 30, 3) := by decide +kernel
theorem dX2_worth_319 : decode cX2_worth 319 = .ok (.iload 4, 2) := by decide +kernel
theorem dX2_worth_321 : decode cX2_worth 321 = .ok (.iconst 1, 1) := by decide +kernel
theorem dX2_worth_322 : decode cX2_worth 322 = .ok (.isub, 1) := by decide +kernel
theorem dX2_worth_323 : decode cX2_worth 323 = .ok (.iaload, 1) := by decide +kernel
theorem dX2_worth_324 : decode cX2_worth 324 = .ok (.goto 4, 3) := by decide +kernel
theorem dX2_worth_327 : decode cX2_worth 327 = .ok (.iconst 0, 1) := by decide +kernel
theorem dX2_worth_328 : decode cX2_worth 328 = .ok (.ireturn, 1) := by decide +kernel
theorem dX2_isRefused_0 : decode cX2_isRefused 0 = .ok (.iload_n 1, 1) := by decide +kernel
theorem dX2_isRefused_1 : decode cX2_isRefused 1 = .ok (.ifCond .ne 19, 3) := by decide +kernel
theorem dX2_isRefused_4 : decode cX2_isRefused 4 = .ok (.iload_n 0, 1) := by decide +kernel
theorem dX2_isRefused_5 : decode cX2_isRefused 5 = .ok (.bipush 47, 2) := by decide +kernel
theorem dX2_isRefused_7 : decode cX2_isRefused 7 = .ok (.if_icmp .eq 9, 3) := by decide +kernel
theorem dX2_isRefused_10 : decode cX2_isRefused 10 = .ok (.iload_n 0, 1) := by decide +kernel
theorem dX2_isRefused_11 : decode cX2_isRefused 11 = .ok (.bipush 37, 2) := by decide +kernel
theorem dX2_isRefused_13 : decode cX2_isRefused 13 = .ok (.if_icmp .ne 7, 3) := by decide +kernel
theorem dX2_isRefused_16 : decode cX2_isRefused 16 = .ok (.iconst 1, 1) := by decide +kernel
theorem dX2_isRefused_17 : decode cX2_isRefused 17 = .ok (.goto 4, 3) := by decide +kernel
theorem dX2_isRefused_20 : decode cX2_isRefused 20 = .ok (.iconst 0, 1) := by decide +kernel
theorem dX2_isRefused_21 : decode cX2_isRefused 21 = .ok (.ireturn, 1) := by decide +kernel
theorem dX2_combined_0 : decode cX2_combined 0 = .ok (.iload_n 0, 1) := by decide +kernel
theorem dX2_combined_1 : decode cX2_combined 1 = .ok (.lookupswitch 125 #[(37, 91), (42, 75), (43, 67), (45, 71), (47, 79), (60, 103), (62, 114)], 67) := by decide +kernel
theorem dX2_combined_68 : decode cX2_combined 68 = .ok (.iload_n 1, 1) := by decide +kernel
theorem dX2_combined_69 : decode cX2_combined 69 = .ok (.iload_n 2, 1) := by decide +kernel
theorem dX2_combined_70 : decode cX2_combined 70 = .ok (.iadd, 1) := by decide +kernel
theorem dX2_combined_71 : decode cX2_combined 71 = .ok (.ireturn, 1) := by decide +kernel
theorem dX2_combined_72 : decode cX2_combined 72 = .ok (.iload_n 1, 1) := by decide +kernel
theorem dX2_combined_73 : decode cX2_combined 73 = .ok (.iload_n 2, 1) := by decide +kernel
theorem dX2_combined_74 : decode cX2_combined 74 = .ok (.isub, 1) := by decide +kernel
theorem dX2_combined_75 : decode cX2_combined 75 = .ok (.ireturn, 1) := by decide +kernel
theorem dX2_combined_76 : decode cX2_combined 76 = .ok (.iload_n 1, 1) := by decide +kernel
theorem dX2_combined_77 : decode cX2_combined 77 = .ok (.iload_n 2, 1) := by decide +kernel
theorem dX2_combined_78 : decode cX2_combined 78 = .ok (.imul, 1) := by decide +kernel
theorem dX2_combined_79 : decode cX2_combined 79 = .ok (.ireturn, 1) := by decide +kernel
theorem dX2_combined_80 : decode cX2_combined 80 = .ok (.iload_n 2, 1) := by decide +kernel
theorem dX2_combined_81 : decode cX2_combined 81 = .ok (.ifCond .ne 7, 3) := by decide +kernel
theorem dX2_combined_84 : decode cX2_combined 84 = .ok (.iconst 0, 1) := by decide +kernel
theorem dX2_combined_85 : decode cX2_combined 85 = .ok (.goto 6, 3) := by decide +kernel
theorem dX2_combined_88 : decode cX2_combined 88 = .ok (.iload_n 1, 1) := by decide +kernel
theorem dX2_combined_89 : decode cX2_combined 89 = .ok (.iload_n 2, 1) := by decide +kernel
theorem dX2_combined_90 : decode cX2_combined 90 = .ok (.idiv, 1) := by decide +kernel
theorem dX2_combined_91 : decode cX2_combined 91 = .ok (.ireturn, 1) := by decide +kernel
theorem dX2_combined_92 : decode cX2_combined 92 = .ok (.iload_n 2, 1) := by decide +kernel
theorem dX2_combined_93 : decode cX2_combined 93 = .ok (.ifCond .ne 7, 3) := by decide +kernel
theorem dX2_combined_96 : decode cX2_combined 96 = .ok (.iconst 0, 1) := by decide +kernel
theorem dX2_combined_97 : decode cX2_combined 97 = .ok (.goto 6, 3) := by decide +kernel
theorem dX2_combined_100 : decode cX2_combined 100 = .ok (.iload_n 1, 1) := by decide +kernel
theorem dX2_combined_101 : decode cX2_combined 101 = .ok (.iload_n 2, 1) := by decide +kernel
theorem dX2_combined_102 : decode cX2_combined 102 = .ok (.irem, 1) := by decide +kernel
theorem dX2_combined_103 : decode cX2_combined 103 = .ok (.ireturn, 1) := by decide +kernel
theorem dX2_combined_104 : decode cX2_combined 104 = .ok (.iload_n 1, 1) := by decide +kernel
theorem dX2_combined_105 : decode cX2_combined 105 = .ok (.iload_n 2, 1) := by decide +kernel
theorem dX2_combined_106 : decode cX2_combined 106 = .ok (.if_icmp .ge 7, 3) := by decide +kernel
theorem dX2_combined_109 : decode cX2_combined 109 = .ok (.iconst 1, 1) := by decide +kernel
theorem dX2_combined_110 : decode cX2_combined 110 = .ok (.goto 4, 3) := by decide +kernel
theorem dX2_combined_113 : decode cX2_combined 113 = .ok (.iconst 0, 1) := by decide +kernel
theorem dX2_combined_114 : decode cX2_combined 114 = .ok (.ireturn, 1) := by decide +kernel
theorem dX2_combined_115 : decode cX2_combined 115 = .ok (.iload_n 1, 1) := by decide +kernel
theorem dX2_combined_116 : decode cX2_combined 116 = .ok (.iload_n 2, 1) := by decide +kernel
theorem dX2_combined_117 : decode cX2_combined 117 = .ok (.if_icmp .le 7, 3) := by decide +kernel
theorem dX2_combined_120 : decode cX2_combined 120 = .ok (.iconst 1, 1) := by decide +kernel
theorem dX2_combined_121 : decode cX2_combined 121 = .ok (.goto 4, 3) := by decide +kernel
theorem dX2_combined_124 : decode cX2_combined 124 = .ok (.iconst 0, 1) := by decide +kernel
theorem dX2_combined_125 : decode cX2_combined 125 = .ok (.ireturn, 1) := by decide +kernel
theorem dX2_combined_126 : decode cX2_combined 126 = .ok (.iload_n 1, 1) := by decide +kernel
theorem dX2_combined_127 : decode cX2_combined 127 = .ok (.iload_n 2, 1) := by decide +kernel
theorem dX2_combined_128 : decode cX2_combined 128 = .ok (.if_icmp .ne 7, 3) := by decide +kernel
theorem dX2_combined_131 : decode cX2_combined 131 = .ok (.iconst 1, 1) := by decide +kernel
theorem dX2_combined_132 : decode cX2_combined 132 = .ok (.goto 4, 3) := by decide +kernel
theorem dX2_combined_135 : decode cX2_combined 135 = .ok (.iconst 0, 1) := by decide +kernel
theorem dX2_combined_136 : decode cX2_combined 136 = .ok (.ireturn, 1) := by decide +kernel
theorem dX3_init_0 : decode cX3_init 0 = .ok (.aload_n 0, 1) := by decide +kernel
theorem dX3_init_1 : decode cX3_init 1 = .ok (.invokespecial 3, 3) := by decide +kernel
theorem dX3_init_4 : decode cX3_init 4 = .ok (.aload_n 0, 1) := by decide +kernel
theorem dX3_init_5 : decode cX3_init 5 = .ok (.aload_n 1, 1) := by decide +kernel
theorem dX3_init_6 : decode cX3_init 6 = .ok (.putfield 9, 3) := by decide +kernel
theorem dX3_init_9 : decode cX3_init 9 = .ok (.aload_n 0, 1) := by decide +kernel
theorem dX3_init_10 : decode cX3_init 10 = .ok (.aload_n 2, 1) := by decide +kernel
theorem dX3_init_11 : decode cX3_init 11 = .ok (.putfield 15, 3) := by decide +kernel
theorem dX3_init_14 : decode cX3_init 14 = .ok (.return_, 1) := by decide +kernel
theorem dX3_readText_0 : decode cX3_readText 0 = .ok (.aload_n 0, 1) := by decide +kernel
theorem dX3_readText_1 : decode cX3_readText 1 = .ok (.iload_n 1, 1) := by decide +kernel
theorem dX3_readText_2 : decode cX3_readText 2 = .ok (.sipush 160, 3) := by decide +kernel
theorem dX3_readText_5 : decode cX3_readText 5 = .ok (.invokestatic 19, 3) := by decide +kernel
theorem dX3_readText_8 : decode cX3_readText 8 = .ok (.putfield 25, 3) := by decide +kernel
theorem dX3_readText_11 : decode cX3_readText 11 = .ok (.aload_n 0, 1) := by decide +kernel
theorem dX3_readText_12 : decode cX3_readText 12 = .ok (.iconst 0, 1) := by decide +kernel
theorem dX3_readText_13 : decode cX3_readText 13 = .ok (.putfield 29, 3) := by decide +kernel
theorem dX3_readText_16 : decode cX3_readText 16 = .ok (.aload_n 0, 1) := by decide +kernel
theorem dX3_readText_17 : decode cX3_readText 17 = .ok (.iconst 0, 1) := by decide +kernel
theorem dX3_readText_18 : decode cX3_readText 18 = .ok (.putfield 32, 3) := by decide +kernel
theorem dX3_readText_21 : decode cX3_readText 21 = .ok (.aload_n 0, 1) := by decide +kernel
theorem dX3_readText_22 : decode cX3_readText 22 = .ok (.getfield 15, 3) := by decide +kernel
theorem dX3_readText_25 : decode cX3_readText 25 = .ok (.invokevirtual 35, 3) := by decide +kernel
theorem dX3_readText_28 : decode cX3_readText 28 = .ok (.aload_n 0, 1) := by decide +kernel
theorem dX3_readText_29 : decode cX3_readText 29 = .ok (.invokevirtual 40, 3) := by decide +kernel
theorem dX3_readText_32 : decode cX3_readText 32 = .ok (.iconst 0, 1) := by decide +kernel
theorem dX3_readText_33 : decode cX3_readText 33 = .ok (.istore_n 2, 1) := by decide +kernel
theorem dX3_readText_34 : decode cX3_readText 34 = .ok (.iload_n 2, 1) := by decide +kernel
theorem dX3_readText_35 : decode cX3_readText 35 = .ok (.sipush 160, 3) := by decide +kernel
theorem dX3_readText_38 : decode cX3_readText 38 = .ok (.if_icmp .ge 37, 3) := by decide +kernel
theorem dX3_readText_41 : decode cX3_readText 41 = .ok (.aload_n 0, 1) := by decide +kernel
theorem dX3_readText_42 : decode cX3_readText 42 = .ok (.getfield 32, 3) := by decide +kernel
theorem dX3_readText_45 : decode cX3_readText 45 = .ok (.ifCond .ne 30, 3) := by decide +kernel
theorem dX3_readText_48 : decode cX3_readText 48 = .ok (.aload_n 0, 1) := by decide +kernel
theorem dX3_readText_49 : decode cX3_readText 49 = .ok (.getfield 29, 3) := by decide +kernel
theorem dX3_readText_52 : decode cX3_readText 52 = .ok (.aload_n 0, 1) := by decide +kernel
theorem dX3_readText_53 : decode cX3_readText 53 = .ok (.getfield 25, 3) := by decide +kernel
theorem dX3_readText_56 : decode cX3_readText 56 = .ok (.if_icmp .ge 19, 3) := by decide +kernel
theorem dX3_readText_59 : decode cX3_readText 59 = .ok (.aload_n 0, 1) := by decide +kernel
theorem dX3_readText_60 : decode cX3_readText 60 = .ok (.bipush 59, 2) := by decide +kernel
theorem dX3_readText_62 : decode cX3_readText 62 = .ok (.invokevirtual 43, 3) := by decide +kernel
theorem dX3_readText_65 : decode cX3_readText 65 = .ok (.aload_n 0, 1) := by decide +kernel
theorem dX3_readText_66 : decode cX3_readText 66 = .ok (.invokevirtual 40, 3) := by decide +kernel
theorem dX3_readText_69 : decode cX3_readText 69 = .ok (.iinc 2 1, 3) := by decide +kernel
theorem dX3_readText_72 : decode cX3_readText 72 = .ok (.goto (-38), 3) := by decide +kernel
theorem dX3_readText_75 : decode cX3_readText 75 = .ok (.aload_n 0, 1) := by decide +kernel
theorem dX3_readText_76 : decode cX3_readText 76 = .ok (.getfield 32, 3) := by decide +kernel
theorem dX3_readText_79 : decode cX3_readText 79 = .ok (.ifCond .eq 10, 3) := by decide +kernel
theorem dX3_readText_82 : decode cX3_readText 82 = .ok (.aload_n 0, 1) := by decide +kernel
theorem dX3_readText_83 : decode cX3_readText 83 = .ok (.getfield 32, 3) := by decide +kernel
theorem dX3_readText_86 : decode cX3_readText 86 = .ok (.goto 10, 3) := by decide +kernel
theorem dX3_readText_89 : decode cX3_readText 89 = .ok (.aload_n 0, 1) := by decide +kernel
theorem dX3_readText_90 : decode cX3_readText 90 = .ok (.getfield 15, 3) := by decide +kernel
theorem dX3_readText_93 : decode cX3_readText 93 = .ok (.getfield 47, 3) := by decide +kernel
theorem dX3_readText_96 : decode cX3_readText 96 = .ok (.ireturn, 1) := by decide +kernel
theorem dX3_readClause_0 : decode cX3_readClause 0 = .ok (.aload_n 0, 1) := by decide +kernel
theorem dX3_readClause_1 : decode cX3_readClause 1 = .ok (.getfield 32, 3) := by decide +kernel
theorem dX3_readClause_4 : decode cX3_readClause 4 = .ok (.ifCond .eq 4, 3) := by decide +kernel
theorem dX3_readClause_7 : decode cX3_readClause 7 = .ok (.return_, 1) := by decide +kernel
theorem dX3_readClause_8 : decode cX3_readClause 8 = .ok (.aload_n 0, 1) := by decide +kernel
theorem dX3_readClause_9 : decode cX3_readClause 9 = .ok (.ldc 50, 2) := by decide +kernel
theorem dX3_readClause_11 : decode cX3_readClause 11 = .ok (.invokevirtual 52, 3) := by decide +kernel
theorem dX3_readClause_14 : decode cX3_readClause 14 = .ok (.ifCond .ne 11, 3) := by decide +kernel
theorem dX3_readClause_17 : decode cX3_readClause 17 = .ok (.aload_n 0, 1) := by decide +kernel
theorem dX3_readClause_18 : decode cX3_readClause 18 = .ok (.iconst 1, 1) := by decide +kernel
theorem dX3_readClause_19 : decode cX3_readClause 19 = .ok (.invokevirtual 56, 3) := by decide +kernel
theorem dX3_readClause_22 : decode cX3_readClause 22 = .ok (.goto 91, 3) := by decide +kernel
theorem dX3_readClause_25 : decode cX3_readClause 25 = .ok (.aload_n 0, 1) := by decide +kernel
theorem dX3_readClause_26 : decode cX3_readClause 26 = .ok (.getfield 15, 3) := by decide +kernel
theorem dX3_readClause_29 : decode cX3_readClause 29 = .ok (.getfield 47, 3) := by decide +kernel
theorem dX3_readClause_32 : decode cX3_readClause 32 = .ok (.bipush 12, 2) := by decide +kernel
theorem dX3_readClause_34 : decode cX3_readClause 34 = .ok (.if_icmp .lt 11, 3) := by decide +kernel
theorem dX3_readClause_37 : decode cX3_readClause 37 = .ok (.aload_n 0, 1) := by decide +kernel
theorem dX3_readClause_38 : decode cX3_readClause 38 = .ok (.iconst 4, 1) := by decide +kernel
theorem dX3_readClause_39 : decode cX3_readClause 39 = .ok (.invokevirtual 56, 3) := by decide +kernel
theorem dX3_readClause_42 : decode cX3_readClause 42 = .ok (.goto 71, 3) := by decide +kernel
theorem dX3_readClause_45 : decode cX3_readClause 45 = .ok (.aload_n 0, 1) := by decide +kernel
theorem dX3_readClause_46 : decode cX3_readClause 46 = .ok (.ldc 59, 2) := by decide +kernel
theorem dX3_readClause_48 : decode cX3_readClause 48 = .ok (.invokevirtual 52, 3) := by decide +kernel
theorem dX3_readClause_51 : decode cX3_readClause 51 = .ok (.istore_n 1, 1) := by decide +kernel
theorem dX3_readClause_52 : decode cX3_readClause 52 = .ok (.aload_n 0, 1) := by decide +kernel
theorem dX3_readClause_53 : decode cX3_readClause 53 = .ok (.getfield 15, 3) := by decide +kernel
theorem dX3_readClause_56 : decode cX3_readClause 56 = .ok (.aload_n 0, 1) := by decide +kernel
theorem dX3_readClause_57 : decode cX3_readClause 57 = .ok (.invokevirtual 61, 3) := by decide +kernel
theorem dX3_readClause_60 : decode cX3_readClause 60 = .ok (.invokevirtual 65, 3) := by decide +kernel
theorem dX3_readClause_63 : decode cX3_readClause 63 = .ok (.aload_n 0, 1) := by decide +kernel
theorem dX3_readClause_64 : decode cX3_readClause 64 = .ok (.dup, 1) := by decide +kernel
theorem dX3_readClause_65 : decode cX3_readClause 65 = .ok (.getfield 29, 3) := by decide +kernel
theorem dX3_readClause_68 : decode cX3_readClause 68 = .ok (.iconst 1, 1) := by decide +kernel
theorem dX3_readClause_69 : decode cX3_readClause 69 = .ok (.iadd, 1) := by decide +kernel
theorem dX3_readClause_70 : decode cX3_readClause 70 = .ok (.putfield 29, 3) := by decide +kernel
theorem dX3_readClause_73 : decode cX3_readClause 73 = .ok (.iload_n 1, 1) := by decide +kernel
theorem dX3_readClause_74 : decode cX3_readClause 74 = .ok (.ifCond .eq 8, 3) := by decide +kernel
theorem dX3_readClause_77 : decode cX3_readClause 77 = .ok (.aload_n 0, 1) := by decide +kernel
theorem dX3_readClause_78 : decode cX3_readClause 78 = .ok (.iconst 0, 1) := by decide +kernel
theorem dX3_readClause_79 : decode cX3_readClause 79 = .ok (.invokevirtual 68, 3) := by decide +kernel
theorem dX3_readClause_82 : decode cX3_readClause 82 = .ok (.aload_n 0, 1) := by decide +kernel
theorem dX3_readClause_83 : decode cX3_readClause 83 = .ok (.getfield 15, 3) := by decide +kernel
theorem dX3_readClause_86 : decode cX3_readClause 86 = .ok (.invokevirtual 71, 3) := by decide +kernel
theorem dX3_readClause_89 : decode cX3_readClause 89 = .ok (.aload_n 0, 1) := by decide +kernel
theorem dX3_readClause_90 : decode cX3_readClause 90 = .ok (.bipush 40, 2) := by decide +kernel
theorem dX3_readClause_92 : decode cX3_readClause 92 = .ok (.invokevirtual 43, 3) := by decide +kernel
theorem dX3_readClause_95 : decode cX3_readClause 95 = .ok (.aload_n 0, 1) := by decide +kernel
theorem dX3_readClause_96 : decode cX3_readClause 96 = .ok (.iconst 1, 1) := by decide +kernel
theorem dX3_readClause_97 : decode cX3_readClause 97 = .ok (.invokevirtual 74, 3) := by decide +kernel
theorem dX3_readClause_100 : decode cX3_readClause 100 = .ok (.aload_n 0, 1) := by decide +kernel
theorem dX3_readClause_101 : decode cX3_readClause 101 = .ok (.bipush 41, 2) := by decide +kernel
theorem dX3_readClause_103 : decode cX3_readClause 103 = .ok (.invokevirtual 43, 3) := by decide +kernel
theorem dX3_readClause_106 : decode cX3_readClause 106 = .ok (.aload_n 0, 1) := by decide +kernel
theorem dX3_readClause_107 : decode cX3_readClause 107 = .ok (.getfield 15, 3) := by decide +kernel
theorem dX3_readClause_110 : decode cX3_readClause 110 = .ok (.invokevirtual 77, 3) := by decide +kernel
theorem dX3_readClause_113 : decode cX3_readClause 113 = .ok (.return_, 1) := by decide +kernel
theorem dX3_readChoice_0 : decode cX3_readChoice 0 = .ok (.aload_n 0, 1) := by decide +kernel
theorem dX3_readChoice_1 : decode cX3_readChoice 1 = .ok (.iload_n 1, 1) := by decide +kernel
theorem dX3_readChoice_2 : decode cX3_readChoice 2 = .ok (.invokevirtual 80, 3) := by decide +kernel
theorem dX3_readChoice_5 : decode cX3_readChoice 5 = .ok (.iconst 0, 1) := by decide +kernel
theorem dX3_readChoice_6 : decode cX3_readChoice 6 = .ok (.istore_n 2, 1) := by decide +kernel
theorem dX3_readChoice_7 : decode cX3_readChoice 7 = .ok (.iload_n 2, 1) := by decide +kernel
theorem dX3_readChoice_8 : decode cX3_readChoice 8 = .ok (.sipush 160, 3) := by decide +kernel
theorem dX3_readChoice_11 : decode cX3_readChoice 11 = .ok (.if_icmp .ge 52, 3) := by decide +kernel
theorem dX3_readChoice_14 : decode cX3_readChoice 14 = .ok (.aload_n 0, 1) := by decide +kernel
theorem dX3_readChoice_15 : decode cX3_readChoice 15 = .ok (.ldc 83, 2) := by decide +kernel
theorem dX3_readChoice_17 : decode cX3_readChoice 17 = .ok (.invokevirtual 52, 3) := by decide +kernel
theorem dX3_readChoice_20 : decode cX3_readChoice 20 = .ok (.ifCond .eq 43, 3) := by decide +kernel
theorem dX3_readChoice_23 : decode cX3_readChoice 23 = .ok (.aload_n 0, 1) := by decide +kernel
theorem dX3_readChoice_24 : decode cX3_readChoice 24 = .ok (.dup, 1) := by decide +kernel
theorem dX3_readChoice_25 : decode cX3_readChoice 25 = .ok (.getfield 29, 3) := by decide +kernel
theorem dX3_readChoice_28 : decode cX3_readChoice 28 = .ok (.iconst 1, 1) := by decide +kernel
theorem dX3_readChoice_29 : decode cX3_readChoice 29 = .ok (.iadd, 1) := by decide +kernel
theorem dX3_readChoice_30 : decode cX3_readChoice 30 = .ok (.putfield 29, 3) := by decide +kernel
theorem dX3_readChoice_33 : decode cX3_readChoice 33 = .ok (.aload_n 0, 1) := by decide +kernel
theorem dX3_readChoice_34 : decode cX3_readChoice 34 = .ok (.getfield 15, 3) := by decide +kernel
theorem dX3_readChoice_37 : decode cX3_readChoice 37 = .ok (.bipush 124, 2) := by decide +kernel
theorem dX3_readChoice_39 : decode cX3_readChoice 39 = .ok (.iconst 0, 1) := by decide +kernel
theorem dX3_readChoice_40 : decode cX3_readChoice 40 = .ok (.invokevirtual 85, 3) := by decide +kernel
theorem dX3_readChoice_43 : decode cX3_readChoice 43 = .ok (.istore_n 3, 1) := by decide +kernel
theorem dX3_readChoice_44 : decode cX3_readChoice 44 = .ok (.aload_n 0, 1) := by decide +kernel
theorem dX3_readChoice_45 : decode cX3_readChoice 45 = .ok (.iload_n 1, 1) := by decide +kernel
theorem dX3_readChoice_46 : decode cX3_readChoice 46 = .ok (.invokevirtual 80, 3) := by decide +kernel
theorem dX3_readChoice_49 : decode cX3_readChoice 49 = .ok (.aload_n 0, 1) := by decide +kernel
theorem dX3_readChoice_50 : decode cX3_readChoice 50 = .ok (.getfield 15, 3) := by decide +kernel
theorem dX3_readChoice_53 : decode cX3_readChoice 53 = .ok (.iload_n 3, 1) := by decide +kernel
theorem dX3_readChoice_54 : decode cX3_readChoice 54 = .ok (.invokevirtual 88, 3) := by decide +kernel
theorem dX3_readChoice_57 : decode cX3_readChoice 57 = .ok (.iinc 2 1, 3) := by decide +kernel
theorem dX3_readChoice_60 : decode cX3_readChoice 60 = .ok (.goto (-53), 3) := by decide +kernel
theorem dX3_readChoice_63 : decode cX3_readChoice 63 = .ok (.return_, 1) := by decide +kernel
theorem dX3_readPart_0 : decode cX3_readPart 0 = .ok (.aload_n 0, 1) := by decide +kernel
theorem dX3_readPart_1 : decode cX3_readPart 1 = .ok (.iload_n 1, 1) := by decide +kernel
theorem dX3_readPart_2 : decode cX3_readPart 2 = .ok (.invokevirtual 91, 3) := by decide +kernel
theorem dX3_readPart_5 : decode cX3_readPart 5 = .ok (.iconst 0, 1) := by decide +kernel
theorem dX3_readPart_6 : decode cX3_readPart 6 = .ok (.istore_n 2, 1) := by decide +kernel
theorem dX3_readPart_7 : decode cX3_readPart 7 = .ok (.iload_n 2, 1) := by decide +kernel
theorem dX3_readPart_8 : decode cX3_readPart 8 = .ok (.sipush 160, 3) := by decide +kernel
theorem dX3_readPart_11 : decode cX3_readPart 11 = .ok (.if_icmp .ge 52, 3) := by decide +kernel
theorem dX3_readPart_14 : decode cX3_readPart 14 = .ok (.aload_n 0, 1) := by decide +kernel
theorem dX3_readPart_15 : decode cX3_readPart 15 = .ok (.ldc 94, 2) := by decide +kernel
theorem dX3_readPart_17 : decode cX3_readPart 17 = .ok (.invokevirtual 52, 3) := by decide +kernel
theorem dX3_readPart_20 : decode cX3_readPart 20 = .ok (.ifCond .eq 43, 3) := by decide +kernel
theorem dX3_readPart_23 : decode cX3_readPart 23 = .ok (.aload_n 0, 1) := by decide +kernel
theorem dX3_readPart_24 : decode cX3_readPart 24 = .ok (.dup, 1) := by decide +kernel
theorem dX3_readPart_25 : decode cX3_readPart 25 = .ok (.getfield 29, 3) := by decide +kernel
theorem dX3_readPart_28 : decode cX3_readPart 28 = .ok (.iconst 1, 1) := by decide +kernel
theorem dX3_readPart_29 : decode cX3_readPart 29 = .ok (.iadd, 1) := by decide +kernel
theorem dX3_readPart_30 : decode cX3_readPart 30 = .ok (.putfield 29, 3) := by decide +kernel
theorem dX3_readPart_33 : decode cX3_readPart 33 = .ok (.aload_n 0, 1) := by decide +kernel
theorem dX3_readPart_34 : decode cX3_readPart 34 = .ok (.getfield 15, 3) := by decide +kernel
theorem dX3_readPart_37 : decode cX3_readPart 37 = .ok (.bipush 38, 2) := by decide +kernel
theorem dX3_readPart_39 : decode cX3_readPart 39 = .ok (.iconst 0, 1) := by decide +kernel
theorem dX3_readPart_40 : decode cX3_readPart 40 = .ok (.invokevirtual 85, 3) := by decide +kernel
theorem dX3_readPart_43 : decode cX3_readPart 43 = .ok (.istore_n 3, 1) := by decide +kernel
theorem dX3_readPart_44 : decode cX3_readPart 44 = .ok (.aload_n 0, 1) := by decide +kernel
theorem dX3_readPart_45 : decode cX3_readPart 45 = .ok (.iload_n 1, 1) := by decide +kernel
theorem dX3_readPart_46 : decode cX3_readPart 46 = .ok (.invokevirtual 91, 3) := by decide +kernel
theorem dX3_readPart_49 : decode cX3_readPart 49 = .ok (.aload_n 0, 1) := by decide +kernel
theorem dX3_readPart_50 : decode cX3_readPart 50 = .ok (.getfield 15, 3) := by decide +kernel
theorem dX3_readPart_53 : decode cX3_readPart 53 = .ok (.iload_n 3, 1) := by decide +kernel
theorem dX3_readPart_54 : decode cX3_readPart 54 = .ok (.invokevirtual 88, 3) := by decide +kernel
theorem dX3_readPart_57 : decode cX3_readPart 57 = .ok (.iinc 2 1, 3) := by decide +kernel
theorem dX3_readPart_60 : decode cX3_readPart 60 = .ok (.goto (-53), 3) := by decide +kernel
theorem dX3_readPart_63 : decode cX3_readPart 63 = .ok (.return_, 1) := by decide +kernel
theorem dX3_readPiece_0 : decode cX3_readPiece 0 = .ok (.aload_n 0, 1) := by decide +kernel
theorem dX3_readPiece_1 : decode cX3_readPiece 1 = .ok (.getfield 32, 3) := by decide +kernel
theorem dX3_readPiece_4 : decode cX3_readPiece 4 = .ok (.ifCond .eq 4, 3) := by decide +kernel
theorem dX3_readPiece_7 : decode cX3_readPiece 7 = .ok (.return_, 1) := by decide +kernel
theorem dX3_readPiece_8 : decode cX3_readPiece 8 = .ok (.aload_n 0, 1) := by decide +kernel
theorem dX3_readPiece_9 : decode cX3_readPiece 9 = .ok (.ldc 96, 2) := by decide +kernel
theorem dX3_readPiece_11 : decode cX3_readPiece 11 = .ok (.invokevirtual 52, 3) := by decide +kernel
theorem dX3_readPiece_14 : decode cX3_readPiece 14 = .ok (.ifCond .eq 36, 3) := by decide +kernel
theorem dX3_readPiece_17 : decode cX3_readPiece 17 = .ok (.aload_n 0, 1) := by decide +kernel
theorem dX3_readPiece_18 : decode cX3_readPiece 18 = .ok (.iload_n 1, 1) := by decide +kernel
theorem dX3_readPiece_19 : decode cX3_readPiece 19 = .ok (.invokevirtual 98, 3) := by decide +kernel
theorem dX3_readPiece_22 : decode cX3_readPiece 22 = .ok (.aload_n 0, 1) := by decide +kernel
theorem dX3_readPiece_23 : decode cX3_readPiece 23 = .ok (.getfield 32, 3) := by decide +kernel
theorem dX3_readPiece_26 : decode cX3_readPiece 26 = .ok (.ifCond .ne 66, 3) := by decide +kernel
theorem dX3_readPiece_29 : decode cX3_readPiece 29 = .ok (.aload_n 0, 1) := by decide +kernel
theorem dX3_readPiece_30 : decode cX3_readPiece 30 = .ok (.iload_n 1, 1) := by decide +kernel
theorem dX3_readPiece_31 : decode cX3_readPiece 31 = .ok (.iconst 1, 1) := by decide +kernel
theorem dX3_readPiece_32 : decode cX3_readPiece 32 = .ok (.iadd, 1) := by decide +kernel
theorem dX3_readPiece_33 : decode cX3_readPiece 33 = .ok (.invokevirtual 91, 3) := by decide +kernel
theorem dX3_readPiece_36 : decode cX3_readPiece 36 = .ok (.aload_n 0, 1) := by decide +kernel
theorem dX3_readPiece_37 : decode cX3_readPiece 37 = .ok (.getfield 15, 3) := by decide +kernel
theorem dX3_readPiece_40 : decode cX3_readPiece 40 = .ok (.bipush 33, 2) := by decide +kernel
theorem dX3_readPiece_42 : decode cX3_readPiece 42 = .ok (.iconst 0, 1) := by decide +kernel
theorem dX3_readPiece_43 : decode cX3_readPiece 43 = .ok (.invokevirtual 85, 3) := by decide +kernel
theorem dX3_readPiece_46 : decode cX3_readPiece 46 = .ok (.pop, 1) := by decide +kernel
theorem dX3_readPiece_47 : decode cX3_readPiece 47 = .ok (.goto 45, 3) := by decide +kernel
theorem dX3_readPiece_50 : decode cX3_readPiece 50 = .ok (.aload_n 0, 1) := by decide +kernel
theorem dX3_readPiece_51 : decode cX3_readPiece 51 = .ok (.ldc 101, 2) := by decide +kernel
theorem dX3_readPiece_53 : decode cX3_readPiece 53 = .ok (.invokevirtual 52, 3) := by decide +kernel
theorem dX3_readPiece_56 : decode cX3_readPiece 56 = .ok (.ifCond .eq 31, 3) := by decide +kernel
theorem dX3_readPiece_59 : decode cX3_readPiece 59 = .ok (.aload_n 0, 1) := by decide +kernel
theorem dX3_readPiece_60 : decode cX3_readPiece 60 = .ok (.iload_n 1, 1) := by decide +kernel
theorem dX3_readPiece_61 : decode cX3_readPiece 61 = .ok (.invokevirtual 98, 3) := by decide +kernel
theorem dX3_readPiece_64 : decode cX3_readPiece 64 = .ok (.aload_n 0, 1) := by decide +kernel
theorem dX3_readPiece_65 : decode cX3_readPiece 65 = .ok (.getfield 32, 3) := by decide +kernel
theorem dX3_readPiece_68 : decode cX3_readPiece 68 = .ok (.ifCond .ne 24, 3) := by decide +kernel
theorem dX3_readPiece_71 : decode cX3_readPiece 71 = .ok (.aload_n 0, 1) := by decide +kernel
theorem dX3_readPiece_72 : decode cX3_readPiece 72 = .ok (.iload_n 1, 1) := by decide +kernel
theorem dX3_readPiece_73 : decode cX3_readPiece 73 = .ok (.iconst 1, 1) := by decide +kernel
theorem dX3_readPiece_74 : decode cX3_readPiece 74 = .ok (.iadd, 1) := by decide +kernel
theorem dX3_readPiece_75 : decode cX3_readPiece 75 = .ok (.invokevirtual 74, 3) := by decide +kernel
theorem dX3_readPiece_78 : decode cX3_readPiece 78 = .ok (.aload_n 0, 1) := by decide +kernel
theorem dX3_readPiece_79 : decode cX3_readPiece 79 = .ok (.bipush 41, 2) := by decide +kernel
theorem dX3_readPiece_81 : decode cX3_readPiece 81 = .ok (.invokevirtual 43, 3) := by decide +kernel
theorem dX3_readPiece_84 : decode cX3_readPiece 84 = .ok (.goto 8, 3) := by decide +kernel
theorem dX3_readPiece_87 : decode cX3_readPiece 87 = .ok (.aload_n 0, 1) := by decide +kernel
theorem dX3_readPiece_88 : decode cX3_readPiece 88 = .ok (.iload_n 1, 1) := by decide +kernel
theorem dX3_readPiece_89 : decode cX3_readPiece 89 = .ok (.invokevirtual 103, 3) := by decide +kernel
theorem dX3_readPiece_92 : decode cX3_readPiece 92 = .ok (.return_, 1) := by decide +kernel
theorem dX3_readComparison_0 : decode cX3_readComparison 0 = .ok (.aload_n 0, 1) := by decide +kernel
theorem dX3_readComparison_1 : decode cX3_readComparison 1 = .ok (.iload_n 1, 1) := by decide +kernel
theorem dX3_readComparison_2 : decode cX3_readComparison 2 = .ok (.invokevirtual 68, 3) := by decide +kernel
theorem dX3_readComparison_5 : decode cX3_readComparison 5 = .ok (.aload_n 0, 1) := by decide +kernel
theorem dX3_readComparison_6 : decode cX3_readComparison 6 = .ok (.invokevirtual 61, 3) := by decide +kernel
theorem dX3_readComparison_9 : decode cX3_readComparison 9 = .ok (.istore_n 2, 1) := by decide +kernel
theorem dX3_readComparison_10 : decode cX3_readComparison 10 = .ok (.aload_n 0, 1) := by decide +kernel
theorem dX3_readComparison_11 : decode cX3_readComparison 11 = .ok (.getfield 32, 3) := by decide +kernel
theorem dX3_readComparison_14 : decode cX3_readComparison 14 = .ok (.ifCond .ne 17, 3) := by decide +kernel
theorem dX3_readComparison_17 : decode cX3_readComparison 17 = .ok (.aload_n 0, 1) := by decide +kernel
theorem dX3_readComparison_18 : decode cX3_readComparison 18 = .ok (.ldc 106, 2) := by decide +kernel
theorem dX3_readComparison_20 : decode cX3_readComparison 20 = .ok (.invokevirtual 52, 3) := by decide +kernel
theorem dX3_readComparison_23 : decode cX3_readComparison 23 = .ok (.ifCond .ne 8, 3) := by decide +kernel
theorem dX3_readComparison_26 : decode cX3_readComparison 26 = .ok (.aload_n 0, 1) := by decide +kernel
theorem dX3_readComparison_27 : decode cX3_readComparison 27 = .ok (.iconst 1, 1) := by decide +kernel
theorem dX3_readComparison_28 : decode cX3_readComparison 28 = .ok (.invokevirtual 56, 3) := by decide +kernel
theorem dX3_readComparison_31 : decode cX3_readComparison 31 = .ok (.aload_n 0, 1) := by decide +kernel
theorem dX3_readComparison_32 : decode cX3_readComparison 32 = .ok (.getfield 32, 3) := by decide +kernel
theorem dX3_readComparison_35 : decode cX3_readComparison 35 = .ok (.ifCond .ne 28, 3) := by decide +kernel
theorem dX3_readComparison_38 : decode cX3_readComparison 38 = .ok (.aload_n 0, 1) := by decide +kernel
theorem dX3_readComparison_39 : decode cX3_readComparison 39 = .ok (.dup, 1) := by decide +kernel
theorem dX3_readComparison_40 : decode cX3_readComparison 40 = .ok (.getfield 29, 3) := by decide +kernel
theorem dX3_readComparison_43 : decode cX3_readComparison 43 = .ok (.iconst 1, 1) := by decide +kernel
theorem dX3_readComparison_44 : decode cX3_readComparison 44 = .ok (.iadd, 1) := by decide +kernel
theorem dX3_readComparison_45 : decode cX3_readComparison 45 = .ok (.putfield 29, 3) := by decide +kernel
theorem dX3_readComparison_48 : decode cX3_readComparison 48 = .ok (.aload_n 0, 1) := by decide +kernel
theorem dX3_readComparison_49 : decode cX3_readComparison 49 = .ok (.iload_n 1, 1) := by decide +kernel
theorem dX3_readComparison_50 : decode cX3_readComparison 50 = .ok (.invokevirtual 68, 3) := by decide +kernel
theorem dX3_readComparison_53 : decode cX3_readComparison 53 = .ok (.aload_n 0, 1) := by decide +kernel
theorem dX3_readComparison_54 : decode cX3_readComparison 54 = .ok (.getfield 15, 3) := by decide +kernel
theorem dX3_readComparison_57 : decode cX3_readComparison 57 = .ok (.iload_n 2, 1) := by decide +kernel
theorem dX3_readComparison_58 : decode cX3_readComparison 58 = .ok (.iconst 0, 1) := by decide +kernel
theorem dX3_readComparison_59 : decode cX3_readComparison 59 = .ok (.invokevirtual 85, 3) := by decide +kernel
theorem dX3_readComparison_62 : decode cX3_readComparison 62 = .ok (.pop, 1) := by decide +kernel
theorem dX3_readComparison_63 : decode cX3_readComparison 63 = .ok (.return_, 1) := by decide +kernel
theorem dX3_readSum_0 : decode cX3_readSum 0 = .ok (.aload_n 0, 1) := by decide +kernel
theorem dX3_readSum_1 : decode cX3_readSum 1 = .ok (.iload_n 1, 1) := by decide +kernel
theorem dX3_readSum_2 : decode cX3_readSum 2 = .ok (.invokevirtual 108, 3) := by decide +kernel
theorem dX3_readSum_5 : decode cX3_readSum 5 = .ok (.iconst 0, 1) := by decide +kernel
theorem dX3_readSum_6 : decode cX3_readSum 6 = .ok (.istore_n 2, 1) := by decide +kernel
theorem dX3_readSum_7 : decode cX3_readSum 7 = .ok (.iload_n 2, 1) := by decide +kernel
theorem dX3_readSum_8 : decode cX3_readSum 8 = .ok (.sipush 160, 3) := by decide +kernel
theorem dX3_readSum_11 : decode cX3_readSum 11 = .ok (.if_icmp .ge 48, 3) := by decide +kernel
theorem dX3_readSum_14 : decode cX3_readSum 14 = .ok (.aload_n 0, 1) := by decide +kernel
theorem dX3_readSum_15 : decode cX3_readSum 15 = .ok (.ldc 111, 2) := by decide +kernel
theorem dX3_readSum_17 : decode cX3_readSum 17 = .ok (.invokevirtual 52, 3) := by decide +kernel
theorem dX3_readSum_20 : decode cX3_readSum 20 = .ok (.ifCond .eq 39, 3) := by decide +kernel
theorem dX3_readSum_23 : decode cX3_readSum 23 = .ok (.aload_n 0, 1) := by decide +kernel
theorem dX3_readSum_24 : decode cX3_readSum 24 = .ok (.invokevirtual 61, 3) := by decide +kernel
theorem dX3_readSum_27 : decode cX3_readSum 27 = .ok (.istore_n 3, 1) := by decide +kernel
theorem dX3_readSum_28 : decode cX3_readSum 28 = .ok (.aload_n 0, 1) := by decide +kernel
theorem dX3_readSum_29 : decode cX3_readSum 29 = .ok (.dup, 1) := by decide +kernel
theorem dX3_readSum_30 : decode cX3_readSum 30 = .ok (.getfield 29, 3) := by decide +kernel
theorem dX3_readSum_33 : decode cX3_readSum 33 = .ok (.iconst 1, 1) := by decide +kernel
theorem dX3_readSum_34 : decode cX3_readSum 34 = .ok (.iadd, 1) := by decide +kernel
theorem dX3_readSum_35 : decode cX3_readSum 35 = .ok (.putfield 29, 3) := by decide +kernel
theorem dX3_readSum_38 : decode cX3_readSum 38 = .ok (.aload_n 0, 1) := by decide +kernel
theorem dX3_readSum_39 : decode cX3_readSum 39 = .ok (.iload_n 1, 1) := by decide +kernel
theorem dX3_readSum_40 : decode cX3_readSum 40 = .ok (.invokevirtual 108, 3) := by decide +kernel
theorem dX3_readSum_43 : decode cX3_readSum 43 = .ok (.aload_n 0, 1) := by decide +kernel
theorem dX3_readSum_44 : decode cX3_readSum 44 = .ok (.getfield 15, 3) := by decide +kernel
theorem dX3_readSum_47 : decode cX3_readSum 47 = .ok (.iload_n 3, 1) := by decide +kernel
theorem dX3_readSum_48 : decode cX3_readSum 48 = .ok (.iconst 0, 1) := by decide +kernel
theorem dX3_readSum_49 : decode cX3_readSum 49 = .ok (.invokevirtual 85, 3) := by decide +kernel
theorem dX3_readSum_52 : decode cX3_readSum 52 = .ok (.pop, 1) := by decide +kernel
theorem dX3_readSum_53 : decode cX3_readSum 53 = .ok (.iinc 2 1, 3) := by decide +kernel
theorem dX3_readSum_56 : decode cX3_readSum 56 = .ok (.goto (-49), 3) := by decide +kernel
theorem dX3_readSum_59 : decode cX3_readSum 59 = .ok (.return_, 1) := by decide +kernel
theorem dX3_readTerm_0 : decode cX3_readTerm 0 = .ok (.aload_n 0, 1) := by decide +kernel
theorem dX3_readTerm_1 : decode cX3_readTerm 1 = .ok (.iload_n 1, 1) := by decide +kernel
theorem dX3_readTerm_2 : decode cX3_readTerm 2 = .ok (.invokevirtual 113, 3) := by decide +kernel
theorem dX3_readTerm_5 : decode cX3_readTerm 5 = .ok (.iconst 0, 1) := by decide +kernel
theorem dX3_readTerm_6 : decode cX3_readTerm 6 = .ok (.istore_n 2, 1) := by decide +kernel
theorem dX3_readTerm_7 : decode cX3_readTerm 7 = .ok (.iload_n 2, 1) := by decide +kernel
theorem dX3_readTerm_8 : decode cX3_readTerm 8 = .ok (.sipush 160, 3) := by decide +kernel
theorem dX3_readTerm_11 : decode cX3_readTerm 11 = .ok (.if_icmp .ge 48, 3) := by decide +kernel
theorem dX3_readTerm_14 : decode cX3_readTerm 14 = .ok (.aload_n 0, 1) := by decide +kernel
theorem dX3_readTerm_15 : decode cX3_readTerm 15 = .ok (.ldc 116, 2) := by decide +kernel
theorem dX3_readTerm_17 : decode cX3_readTerm 17 = .ok (.invokevirtual 52, 3) := by decide +kernel
theorem dX3_readTerm_20 : decode cX3_readTerm 20 = .ok (.ifCond .eq 39, 3) := by decide +kernel
theorem dX3_readTerm_23 : decode cX3_readTerm 23 = .ok (.aload_n 0, 1) := by decide +kernel
theorem dX3_readTerm_24 : decode cX3_readTerm 24 = .ok (.invokevirtual 61, 3) := by decide +kernel
theorem dX3_readTerm_27 : decode cX3_readTerm 27 = .ok (.istore_n 3, 1) := by decide +kernel
theorem dX3_readTerm_28 : decode cX3_readTerm 28 = .ok (.aload_n 0, 1) := by decide +kernel
theorem dX3_readTerm_29 : decode cX3_readTerm 29 = .ok (.dup, 1) := by decide +kernel
theorem dX3_readTerm_30 : decode cX3_readTerm 30 = .ok (.getfield 29, 3) := by decide +kernel
theorem dX3_readTerm_33 : decode cX3_readTerm 33 = .ok (.iconst 1, 1) := by decide +kernel
theorem dX3_readTerm_34 : decode cX3_readTerm 34 = .ok (.iadd, 1) := by decide +kernel
theorem dX3_readTerm_35 : decode cX3_readTerm 35 = .ok (.putfield 29, 3) := by decide +kernel
theorem dX3_readTerm_38 : decode cX3_readTerm 38 = .ok (.aload_n 0, 1) := by decide +kernel
theorem dX3_readTerm_39 : decode cX3_readTerm 39 = .ok (.iload_n 1, 1) := by decide +kernel
theorem dX3_readTerm_40 : decode cX3_readTerm 40 = .ok (.invokevirtual 113, 3) := by decide +kernel
theorem dX3_readTerm_43 : decode cX3_readTerm 43 = .ok (.aload_n 0, 1) := by decide +kernel
theorem dX3_readTerm_44 : decode cX3_readTerm 44 = .ok (.getfield 15, 3) := by decide +kernel
theorem dX3_readTerm_47 : decode cX3_readTerm 47 = .ok (.iload_n 3, 1) := by decide +kernel
theorem dX3_readTerm_48 : decode cX3_readTerm 48 = .ok (.iconst 0, 1) := by decide +kernel
theorem dX3_readTerm_49 : decode cX3_readTerm 49 = .ok (.invokevirtual 85, 3) := by decide +kernel
theorem dX3_readTerm_52 : decode cX3_readTerm 52 = .ok (.pop, 1) := by decide +kernel
theorem dX3_readTerm_53 : decode cX3_readTerm 53 = .ok (.iinc 2 1, 3) := by decide +kernel
theorem dX3_readTerm_56 : decode cX3_readTerm 56 = .ok (.goto (-49), 3) := by decide +kernel
theorem dX3_readTerm_59 : decode cX3_readTerm 59 = .ok (.return_, 1) := by decide +kernel
theorem dX3_readFactor_0 : decode cX3_readFactor 0 = .ok (.aload_n 0, 1) := by decide +kernel
theorem dX3_readFactor_1 : decode cX3_readFactor 1 = .ok (.getfield 32, 3) := by decide +kernel
theorem dX3_readFactor_4 : decode cX3_readFactor 4 = .ok (.ifCond .eq 4, 3) := by decide +kernel
theorem dX3_readFactor_7 : decode cX3_readFactor 7 = .ok (.return_, 1) := by decide +kernel
theorem dX3_readFactor_8 : decode cX3_readFactor 8 = .ok (.aload_n 0, 1) := by decide +kernel
theorem dX3_readFactor_9 : decode cX3_readFactor 9 = .ok (.ldc 118, 2) := by decide +kernel
theorem dX3_readFactor_11 : decode cX3_readFactor 11 = .ok (.invokevirtual 52, 3) := by decide +kernel
theorem dX3_readFactor_14 : decode cX3_readFactor 14 = .ok (.ifCond .eq 31, 3) := by decide +kernel
theorem dX3_readFactor_17 : decode cX3_readFactor 17 = .ok (.aload_n 0, 1) := by decide +kernel
theorem dX3_readFactor_18 : decode cX3_readFactor 18 = .ok (.iload_n 1, 1) := by decide +kernel
theorem dX3_readFactor_19 : decode cX3_readFactor 19 = .ok (.invokevirtual 98, 3) := by decide +kernel
theorem dX3_readFactor_22 : decode cX3_readFactor 22 = .ok (.aload_n 0, 1) := by decide +kernel
theorem dX3_readFactor_23 : decode cX3_readFactor 23 = .ok (.getfield 32, 3) := by decide +kernel
theorem dX3_readFactor_26 : decode cX3_readFactor 26 = .ok (.ifCond .ne 82, 3) := by decide +kernel
theorem dX3_readFactor_29 : decode cX3_readFactor 29 = .ok (.aload_n 0, 1) := by decide +kernel
theorem dX3_readFactor_30 : decode cX3_readFactor 30 = .ok (.iload_n 1, 1) := by decide +kernel
theorem dX3_readFactor_31 : decode cX3_readFactor 31 = .ok (.iconst 1, 1) := by decide +kernel
theorem dX3_readFactor_32 : decode cX3_readFactor 32 = .ok (.iadd, 1) := by decide +kernel
theorem dX3_readFactor_33 : decode cX3_readFactor 33 = .ok (.invokevirtual 68, 3) := by decide +kernel
theorem dX3_readFactor_36 : decode cX3_readFactor 36 = .ok (.aload_n 0, 1) := by decide +kernel
theorem dX3_readFactor_37 : decode cX3_readFactor 37 = .ok (.bipush 93, 2) := by decide +kernel
theorem dX3_readFactor_39 : decode cX3_readFactor 39 = .ok (.invokevirtual 43, 3) := by decide +kernel
theorem dX3_readFactor_42 : decode cX3_readFactor 42 = .ok (.goto 66, 3) := by decide +kernel
theorem dX3_readFactor_45 : decode cX3_readFactor 45 = .ok (.aload_n 0, 1) := by decide +kernel
theorem dX3_readFactor_46 : decode cX3_readFactor 46 = .ok (.ldc 120, 2) := by decide +kernel
theorem dX3_readFactor_48 : decode cX3_readFactor 48 = .ok (.invokevirtual 52, 3) := by decide +kernel
theorem dX3_readFactor_51 : decode cX3_readFactor 51 = .ok (.ifCond .eq 10, 3) := by decide +kernel
theorem dX3_readFactor_54 : decode cX3_readFactor 54 = .ok (.aload_n 0, 1) := by decide +kernel
theorem dX3_readFactor_55 : decode cX3_readFactor 55 = .ok (.invokevirtual 122, 3) := by decide +kernel
theorem dX3_readFactor_58 : decode cX3_readFactor 58 = .ok (.goto 50, 3) := by decide +kernel
theorem dX3_readFactor_61 : decode cX3_readFactor 61 = .ok (.aload_n 0, 1) := by decide +kernel
theorem dX3_readFactor_62 : decode cX3_readFactor 62 = .ok (.ldc 127, 2) := by decide +kernel
theorem dX3_readFactor_64 : decode cX3_readFactor 64 = .ok (.invokevirtual 52, 3) := by decide +kernel
theorem dX3_readFactor_67 : decode cX3_readFactor 67 = .ok (.ifCond .eq 36, 3) := by decide +kernel
theorem dX3_readFactor_70 : decode cX3_readFactor 70 = .ok (.aload_n 0, 1) := by decide +kernel
theorem dX3_readFactor_71 : decode cX3_readFactor 71 = .ok (.getfield 15, 3) := by decide +kernel
theorem dX3_readFactor_74 : decode cX3_readFactor 74 = .ok (.bipush 97, 2) := by decide +kernel
theorem dX3_readFactor_76 : decode cX3_readFactor 76 = .ok (.ldc 127, 2) := by decide +kernel
theorem dX3_readFactor_78 : decode cX3_readFactor 78 = .ok (.aload_n 0, 1) := by decide +kernel
theorem dX3_readFactor_79 : decode cX3_readFactor 79 = .ok (.invokevirtual 61, 3) := by decide +kernel
theorem dX3_readFactor_82 : decode cX3_readFactor 82 = .ok (.i2c, 1) := by decide +kernel
theorem dX3_readFactor_83 : decode cX3_readFactor 83 = .ok (.invokevirtual 129, 3) := by decide +kernel
theorem dX3_readFactor_86 : decode cX3_readFactor 86 = .ok (.invokevirtual 85, 3) := by decide +kernel
theorem dX3_readFactor_89 : decode cX3_readFactor 89 = .ok (.pop, 1) := by decide +kernel
theorem dX3_readFactor_90 : decode cX3_readFactor 90 = .ok (.aload_n 0, 1) := by decide +kernel
theorem dX3_readFactor_91 : decode cX3_readFactor 91 = .ok (.dup, 1) := by decide +kernel
theorem dX3_readFactor_92 : decode cX3_readFactor 92 = .ok (.getfield 29, 3) := by decide +kernel
theorem dX3_readFactor_95 : decode cX3_readFactor 95 = .ok (.iconst 1, 1) := by decide +kernel
theorem dX3_readFactor_96 : decode cX3_readFactor 96 = .ok (.iadd, 1) := by decide +kernel
theorem dX3_readFactor_97 : decode cX3_readFactor 97 = .ok (.putfield 29, 3) := by decide +kernel
theorem dX3_readFactor_100 : decode cX3_readFactor 100 = .ok (.goto 8, 3) := by decide +kernel
theorem dX3_readFactor_103 : decode cX3_readFactor 103 = .ok (.aload_n 0, 1) := by decide +kernel
theorem dX3_readFactor_104 : decode cX3_readFactor 104 = .ok (.iconst 1, 1) := by decide +kernel
theorem dX3_readFactor_105 : decode cX3_readFactor 105 = .ok (.invokevirtual 56, 3) := by decide +kernel
theorem dX3_readFactor_108 : decode cX3_readFactor 108 = .ok (.return_, 1) := by decide +kernel
theorem dX3_readNumber_0 : decode cX3_readNumber 0 = .ok (.iconst 0, 1) := by decide +kernel
theorem dX3_readNumber_1 : decode cX3_readNumber 1 = .ok (.istore_n 1, 1) := by decide +kernel
theorem dX3_readNumber_2 : decode cX3_readNumber 2 = .ok (.iconst 0, 1) := by decide +kernel
theorem dX3_readNumber_3 : decode cX3_readNumber 3 = .ok (.istore_n 2, 1) := by decide +kernel
theorem dX3_readNumber_4 : decode cX3_readNumber 4 = .ok (.iload_n 2, 1) := by decide +kernel
theorem dX3_readNumber_5 : decode cX3_readNumber 5 = .ok (.iconst 5, 1) := by decide +kernel
theorem dX3_readNumber_6 : decode cX3_readNumber 6 = .ok (.if_icmp .ge 41, 3) := by decide +kernel
theorem dX3_readNumber_9 : decode cX3_readNumber 9 = .ok (.aload_n 0, 1) := by decide +kernel
theorem dX3_readNumber_10 : decode cX3_readNumber 10 = .ok (.ldc 120, 2) := by decide +kernel
theorem dX3_readNumber_12 : decode cX3_readNumber 12 = .ok (.invokevirtual 52, 3) := by decide +kernel
theorem dX3_readNumber_15 : decode cX3_readNumber 15 = .ok (.ifCond .eq 32, 3) := by decide +kernel
theorem dX3_readNumber_18 : decode cX3_readNumber 18 = .ok (.iload_n 1, 1) := by decide +kernel
theorem dX3_readNumber_19 : decode cX3_readNumber 19 = .ok (.bipush 10, 2) := by decide +kernel
theorem dX3_readNumber_21 : decode cX3_readNumber 21 = .ok (.imul, 1) := by decide +kernel
theorem dX3_readNumber_22 : decode cX3_readNumber 22 = .ok (.aload_n 0, 1) := by decide +kernel
theorem dX3_readNumber_23 : decode cX3_readNumber 23 = .ok (.invokevirtual 61, 3) := by decide +kernel
theorem dX3_readNumber_26 : decode cX3_readNumber 26 = .ok (.iadd, 1) := by decide +kernel
theorem dX3_readNumber_27 : decode cX3_readNumber 27 = .ok (.bipush 48, 2) := by decide +kernel
theorem dX3_readNumber_29 : decode cX3_readNumber 29 = .ok (.isub, 1) := by decide +kernel
theorem dX3_readNumber_30 : decode cX3_readNumber 30 = .ok (.istore_n 1, 1) := by decide +kernel
theorem dX3_readNumber_31 : decode cX3_readNumber 31 = .ok (.aload_n 0, 1) := by decide +kernel
theorem dX3_readNumber_32 : decode cX3_readNumber 32 = .ok (.dup, 1) := by decide +kernel
theorem dX3_readNumber_33 : decode cX3_readNumber 33 = .ok (.getfield 29, 3) := by decide +kernel
theorem dX3_readNumber_36 : decode cX3_readNumber 36 = .ok (.iconst 1, 1) := by decide +kernel
theorem dX3_readNumber_37 : decode cX3_readNumber 37 = .ok (.iadd, 1) := by decide +kernel
theorem dX3_readNumber_38 : decode cX3_readNumber 38 = .ok (.putfield 29, 3) := by decide +kernel
theorem dX3_readNumber_41 : decode cX3_readNumber 41 = .ok (.iinc 2 1, 3) := by decide +kernel
theorem dX3_readNumber_44 : decode cX3_readNumber 44 = .ok (.goto (-40), 3) := by decide +kernel
theorem dX3_readNumber_47 : decode cX3_readNumber 47 = .ok (.aload_n 0, 1) := by decide +kernel
theorem dX3_readNumber_48 : decode cX3_readNumber 48 = .ok (.ldc 120, 2) := by decide +kernel
theorem dX3_readNumber_50 : decode cX3_readNumber 50 = .ok (.invokevirtual 52, 3) := by decide +kernel
theorem dX3_readNumber_53 : decode cX3_readNumber 53 = .ok (.ifCond .eq 8, 3) := by decide +kernel
theorem dX3_readNumber_56 : decode cX3_readNumber 56 = .ok (.aload_n 0, 1) := by decide +kernel
theorem dX3_readNumber_57 : decode cX3_readNumber 57 = .ok (.iconst 2, 1) := by decide +kernel
theorem dX3_readNumber_58 : decode cX3_readNumber 58 = .ok (.invokevirtual 56, 3) := by decide +kernel
theorem dX3_readNumber_61 : decode cX3_readNumber 61 = .ok (.aload_n 0, 1) := by decide +kernel
theorem dX3_readNumber_62 : decode cX3_readNumber 62 = .ok (.getfield 15, 3) := by decide +kernel
theorem dX3_readNumber_65 : decode cX3_readNumber 65 = .ok (.bipush 48, 2) := by decide +kernel
theorem dX3_readNumber_67 : decode cX3_readNumber 67 = .ok (.iload_n 1, 1) := by decide +kernel
theorem dX3_readNumber_68 : decode cX3_readNumber 68 = .ok (.invokevirtual 85, 3) := by decide +kernel
theorem dX3_readNumber_71 : decode cX3_readNumber 71 = .ok (.pop, 1) := by decide +kernel
theorem dX3_readNumber_72 : decode cX3_readNumber 72 = .ok (.return_, 1) := by decide +kernel
theorem dX3_opens_0 : decode cX3_opens 0 = .ok (.iload_n 1, 1) := by decide +kernel
theorem dX3_opens_1 : decode cX3_opens 1 = .ok (.bipush 6, 2) := by decide +kernel
theorem dX3_opens_3 : decode cX3_opens 3 = .ok (.if_icmp .lt 11, 3) := by decide +kernel
theorem dX3_opens_6 : decode cX3_opens 6 = .ok (.aload_n 0, 1) := by decide +kernel
theorem dX3_opens_7 : decode cX3_opens 7 = .ok (.iconst 5, 1) := by decide +kernel
theorem dX3_opens_8 : decode cX3_opens 8 = .ok (.invokevirtual 56, 3) := by decide +kernel
theorem dX3_opens_11 : decode cX3_opens 11 = .ok (.goto 13, 3) := by decide +kernel
theorem dX3_opens_14 : decode cX3_opens 14 = .ok (.aload_n 0, 1) := by decide +kernel
theorem dX3_opens_15 : decode cX3_opens 15 = .ok (.dup, 1) := by decide +kernel
theorem dX3_opens_16 : decode cX3_opens 16 = .ok (.getfield 29, 3) := by decide +kernel
theorem dX3_opens_19 : decode cX3_opens 19 = .ok (.iconst 1, 1) := by decide +kernel
theorem dX3_opens_20 : decode cX3_opens 20 = .ok (.iadd, 1) := by decide +kernel
theorem dX3_opens_21 : decode cX3_opens 21 = .ok (.putfield 29, 3) := by decide +kernel
theorem dX3_opens_24 : decode cX3_opens 24 = .ok (.return_, 1) := by decide +kernel
theorem dX3_pass_0 : decode cX3_pass 0 = .ok (.aload_n 0, 1) := by decide +kernel
theorem dX3_pass_1 : decode cX3_pass 1 = .ok (.getfield 32, 3) := by decide +kernel
theorem dX3_pass_4 : decode cX3_pass 4 = .ok (.ifCond .eq 4, 3) := by decide +kernel
theorem dX3_pass_7 : decode cX3_pass 7 = .ok (.return_, 1) := by decide +kernel
theorem dX3_pass_8 : decode cX3_pass 8 = .ok (.aload_n 0, 1) := by decide +kernel
theorem dX3_pass_9 : decode cX3_pass 9 = .ok (.invokevirtual 61, 3) := by decide +kernel
theorem dX3_pass_12 : decode cX3_pass 12 = .ok (.iload_n 1, 1) := by decide +kernel
theorem dX3_pass_13 : decode cX3_pass 13 = .ok (.if_icmp .ne 16, 3) := by decide +kernel
theorem dX3_pass_16 : decode cX3_pass 16 = .ok (.aload_n 0, 1) := by decide +kernel
theorem dX3_pass_17 : decode cX3_pass 17 = .ok (.dup, 1) := by decide +kernel
theorem dX3_pass_18 : decode cX3_pass 18 = .ok (.getfield 29, 3) := by decide +kernel
theorem dX3_pass_21 : decode cX3_pass 21 = .ok (.iconst 1, 1) := by decide +kernel
theorem dX3_pass_22 : decode cX3_pass 22 = .ok (.iadd, 1) := by decide +kernel
theorem dX3_pass_23 : decode cX3_pass 23 = .ok (.putfield 29, 3) := by decide +kernel
theorem dX3_pass_26 : decode cX3_pass 26 = .ok (.goto 8, 3) := by decide +kernel
theorem dX3_pass_29 : decode cX3_pass 29 = .ok (.aload_n 0, 1) := by decide +kernel
theorem dX3_pass_30 : decode cX3_pass 30 = .ok (.iconst 1, 1) := by decide +kernel
theorem dX3_pass_31 : decode cX3_pass 31 = .ok (.invokevirtual 56, 3) := by decide +kernel
theorem dX3_pass_34 : decode cX3_pass 34 = .ok (.return_, 1) := by decide +kernel
theorem dX3_sign_0 : decode cX3_sign 0 = .ok (.aload_n 0, 1) := by decide +kernel
theorem dX3_sign_1 : decode cX3_sign 1 = .ok (.getfield 29, 3) := by decide +kernel
theorem dX3_sign_4 : decode cX3_sign 4 = .ok (.aload_n 0, 1) := by decide +kernel
theorem dX3_sign_5 : decode cX3_sign 5 = .ok (.getfield 25, 3) := by decide +kernel
theorem dX3_sign_8 : decode cX3_sign 8 = .ok (.if_icmp .ge 18, 3) := by decide +kernel
theorem dX3_sign_11 : decode cX3_sign 11 = .ok (.aload_n 0, 1) := by decide +kernel
theorem dX3_sign_12 : decode cX3_sign 12 = .ok (.getfield 9, 3) := by decide +kernel
theorem dX3_sign_15 : decode cX3_sign 15 = .ok (.getfield 135, 3) := by decide +kernel
theorem dX3_sign_18 : decode cX3_sign 18 = .ok (.aload_n 0, 1) := by decide +kernel
theorem dX3_sign_19 : decode cX3_sign 19 = .ok (.getfield 29, 3) := by decide +kernel
theorem dX3_sign_22 : decode cX3_sign 22 = .ok (.iaload, 1) := by decide +kernel
theorem dX3_sign_23 : decode cX3_sign 23 = .ok (.goto 4, 3) := by decide +kernel
theorem dX3_sign_26 : decode cX3_sign 26 = .ok (.iconst (-1), 1) := by decide +kernel
theorem dX3_sign_27 : decode cX3_sign 27 = .ok (.ireturn, 1) := by decide +kernel
theorem dX3_isNext_0 : decode cX3_isNext 0 = .ok (.aload_n 0, 1) := by decide +kernel
theorem dX3_isNext_1 : decode cX3_isNext 1 = .ok (.getfield 32, 3) := by decide +kernel
theorem dX3_isNext_4 : decode cX3_isNext 4 = .ok (.ifCond .ne 38, 3) := by decide +kernel
theorem dX3_isNext_7 : decode cX3_isNext 7 = .ok (.aload_n 0, 1) := by decide +kernel
theorem dX3_isNext_8 : decode cX3_isNext 8 = .ok (.getfield 29, 3) := by decide +kernel
theorem dX3_isNext_11 : decode cX3_isNext 11 = .ok (.aload_n 0, 1) := by decide +kernel
theorem dX3_isNext_12 : decode cX3_isNext 12 = .ok (.getfield 25, 3) := by decide +kernel
theorem dX3_isNext_15 : decode cX3_isNext 15 = .ok (.if_icmp .ge 27, 3) := by decide +kernel
theorem dX3_isNext_18 : decode cX3_isNext 18 = .ok (.aload_n 1, 1) := by decide +kernel
theorem dX3_isNext_19 : decode cX3_isNext 19 = .ok (.aload_n 0, 1) := by decide +kernel
theorem dX3_isNext_20 : decode cX3_isNext 20 = .ok (.getfield 9, 3) := by decide +kernel
theorem dX3_isNext_23 : decode cX3_isNext 23 = .ok (.getfield 135, 3) := by decide +kernel
theorem dX3_isNext_26 : decode cX3_isNext 26 = .ok (.aload_n 0, 1) := by decide +kernel
theorem dX3_isNext_27 : decode cX3_isNext 27 = .ok (.getfield 29, 3) := by decide +kernel
theorem dX3_isNext_30 : decode cX3_isNext 30 = .ok (.iaload, 1) := by decide +kernel
theorem dX3_isNext_31 : decode cX3_isNext 31 = .ok (.i2c, 1) := by decide +kernel
theorem dX3_isNext_32 : decode cX3_isNext 32 = .ok (.invokevirtual 129, 3) := by decide +kernel
theorem dX3_isNext_35 : decode cX3_isNext 35 = .ok (.ifCond .lt 7, 3) := by decide +kernel
theorem dX3_isNext_38 : decode cX3_isNext 38 = .ok (.iconst 1, 1) := by decide +kernel
theorem dX3_isNext_39 : decode cX3_isNext 39 = .ok (.goto 4, 3) := by decide +kernel
theorem dX3_isNext_42 : decode cX3_isNext 42 = .ok (.iconst 0, 1) := by decide +kernel
theorem dX3_isNext_43 : decode cX3_isNext 43 = .ok (.ireturn, 1) := by decide +kernel
theorem dX3_fail_0 : decode cX3_fail 0 = .ok (.aload_n 0, 1) := by decide +kernel
theorem dX3_fail_1 : decode cX3_fail 1 = .ok (.getfield 32, 3) := by decide +kernel
theorem dX3_fail_4 : decode cX3_fail 4 = .ok (.ifCond .ne 17, 3) := by decide +kernel
theorem dX3_fail_7 : decode cX3_fail 7 = .ok (.aload_n 0, 1) := by decide +kernel
theorem dX3_fail_8 : decode cX3_fail 8 = .ok (.sipush (-1000), 3) := by decide +kernel
theorem dX3_fail_11 : decode cX3_fail 11 = .ok (.iload_n 1, 1) := by decide +kernel
theorem dX3_fail_12 : decode cX3_fail 12 = .ok (.imul, 1) := by decide +kernel
theorem dX3_fail_13 : decode cX3_fail 13 = .ok (.aload_n 0, 1) := by decide +kernel
theorem dX3_fail_14 : decode cX3_fail 14 = .ok (.getfield 29, 3) := by decide +kernel
theorem dX3_fail_17 : decode cX3_fail 17 = .ok (.isub, 1) := by decide +kernel
theorem dX3_fail_18 : decode cX3_fail 18 = .ok (.putfield 32, 3) := by decide +kernel
theorem dX3_fail_21 : decode cX3_fail 21 = .ok (.return_, 1) := by decide +kernel
theorem dX4_init_0 : decode cX4_init 0 = .ok (.aload_n 0, 1) := by decide +kernel
theorem dX4_init_1 : decode cX4_init 1 = .ok (.invokespecial 1, 3) := by decide +kernel
theorem dX4_init_4 : decode cX4_init 4 = .ok (.aload_n 0, 1) := by decide +kernel
theorem dX4_init_5 : decode cX4_init 5 = .ok (.ldc 9, 2) := by decide +kernel
theorem dX4_init_7 : decode cX4_init 7 = .ok (.invokevirtual 11, 3) := by decide +kernel
theorem dX4_init_10 : decode cX4_init 10 = .ok (.newarray .int, 2) := by decide +kernel
theorem dX4_init_12 : decode cX4_init 12 = .ok (.putfield 17, 3) := by decide +kernel
theorem dX4_init_15 : decode cX4_init 15 = .ok (.return_, 1) := by decide +kernel
theorem dX4_tellSwearer_0 : decode cX4_tellSwearer 0 = .ok (.aload_n 0, 1) := by decide +kernel
theorem dX4_tellSwearer_1 : decode cX4_tellSwearer 1 = .ok (.getfield 17, 3) := by decide +kernel
theorem dX4_tellSwearer_4 : decode cX4_tellSwearer 4 = .ok (.iconst 0, 1) := by decide +kernel
theorem dX4_tellSwearer_5 : decode cX4_tellSwearer 5 = .ok (.aload_n 1, 1) := by decide +kernel
theorem dX4_tellSwearer_6 : decode cX4_tellSwearer 6 = .ok (.iload_n 2, 1) := by decide +kernel
theorem dX4_tellSwearer_7 : decode cX4_tellSwearer 7 = .ok (.invokevirtual 21, 3) := by decide +kernel
theorem dX4_tellSwearer_10 : decode cX4_tellSwearer 10 = .ok (.iastore, 1) := by decide +kernel
theorem dX4_tellSwearer_11 : decode cX4_tellSwearer 11 = .ok (.aload_n 0, 1) := by decide +kernel
theorem dX4_tellSwearer_12 : decode cX4_tellSwearer 12 = .ok (.getfield 17, 3) := by decide +kernel
theorem dX4_tellSwearer_15 : decode cX4_tellSwearer 15 = .ok (.iconst 1, 1) := by decide +kernel
theorem dX4_tellSwearer_16 : decode cX4_tellSwearer 16 = .ok (.aload_n 1, 1) := by decide +kernel
theorem dX4_tellSwearer_17 : decode cX4_tellSwearer 17 = .ok (.getfield 27, 3) := by decide +kernel
theorem dX4_tellSwearer_20 : decode cX4_tellSwearer 20 = .ok (.iload_n 2, 1) := by decide +kernel
theorem dX4_tellSwearer_21 : decode cX4_tellSwearer 21 = .ok (.iaload, 1) := by decide +kernel
theorem dX4_tellSwearer_22 : decode cX4_tellSwearer 22 = .ok (.iastore, 1) := by decide +kernel
theorem dX4_tellSwearer_23 : decode cX4_tellSwearer 23 = .ok (.aload_n 0, 1) := by decide +kernel
theorem dX4_tellSwearer_24 : decode cX4_tellSwearer 24 = .ok (.getfield 17, 3) := by decide +kernel
theorem dX4_tellSwearer_27 : decode cX4_tellSwearer 27 = .ok (.iconst 2, 1) := by decide +kernel
theorem dX4_tellSwearer_28 : decode cX4_tellSwearer 28 = .ok (.aload_n 1, 1) := by decide +kernel
theorem dX4_tellSwearer_29 : decode cX4_tellSwearer 29 = .ok (.getfield 30, 3) := by decide +kernel
theorem dX4_tellSwearer_32 : decode cX4_tellSwearer 32 = .ok (.iload_n 2, 1) := by decide +kernel
theorem dX4_tellSwearer_33 : decode cX4_tellSwearer 33 = .ok (.iaload, 1) := by decide +kernel
theorem dX4_tellSwearer_34 : decode cX4_tellSwearer 34 = .ok (.iastore, 1) := by decide +kernel
theorem dX4_tellSwearer_35 : decode cX4_tellSwearer 35 = .ok (.aload_n 0, 1) := by decide +kernel
theorem dX4_tellSwearer_36 : decode cX4_tellSwearer 36 = .ok (.getfield 17, 3) := by decide +kernel
theorem dX4_tellSwearer_39 : decode cX4_tellSwearer 39 = .ok (.iconst 3, 1) := by decide +kernel
theorem dX4_tellSwearer_40 : decode cX4_tellSwearer 40 = .ok (.aload_n 1, 1) := by decide +kernel
theorem dX4_tellSwearer_41 : decode cX4_tellSwearer 41 = .ok (.getfield 33, 3) := by decide +kernel
theorem dX4_tellSwearer_44 : decode cX4_tellSwearer 44 = .ok (.iload_n 2, 1) := by decide +kernel
theorem dX4_tellSwearer_45 : decode cX4_tellSwearer 45 = .ok (.iaload, 1) := by decide +kernel
theorem dX4_tellSwearer_46 : decode cX4_tellSwearer 46 = .ok (.iastore, 1) := by decide +kernel
theorem dX4_tellSwearer_47 : decode cX4_tellSwearer 47 = .ok (.aload_n 0, 1) := by decide +kernel
theorem dX4_tellSwearer_48 : decode cX4_tellSwearer 48 = .ok (.getfield 17, 3) := by decide +kernel
theorem dX4_tellSwearer_51 : decode cX4_tellSwearer 51 = .ok (.iconst 4, 1) := by decide +kernel
theorem dX4_tellSwearer_52 : decode cX4_tellSwearer 52 = .ok (.aload_n 1, 1) := by decide +kernel
theorem dX4_tellSwearer_53 : decode cX4_tellSwearer 53 = .ok (.getfield 36, 3) := by decide +kernel
theorem dX4_tellSwearer_56 : decode cX4_tellSwearer 56 = .ok (.iload_n 2, 1) := by decide +kernel
theorem dX4_tellSwearer_57 : decode cX4_tellSwearer 57 = .ok (.iaload, 1) := by decide +kernel
theorem dX4_tellSwearer_58 : decode cX4_tellSwearer 58 = .ok (.iastore, 1) := by decide +kernel
theorem dX4_tellSwearer_59 : decode cX4_tellSwearer 59 = .ok (.aload_n 0, 1) := by decide +kernel
theorem dX4_tellSwearer_60 : decode cX4_tellSwearer 60 = .ok (.getfield 17, 3) := by decide +kernel
theorem dX4_tellSwearer_63 : decode cX4_tellSwearer 63 = .ok (.iconst 5, 1) := by decide +kernel
theorem dX4_tellSwearer_64 : decode cX4_tellSwearer 64 = .ok (.iload_n 2, 1) := by decide +kernel
theorem dX4_tellSwearer_65 : decode cX4_tellSwearer 65 = .ok (.iastore, 1) := by decide +kernel
theorem dX4_tellSwearer_66 : decode cX4_tellSwearer 66 = .ok (.return_, 1) := by decide +kernel
theorem dX4_tellSwornTo_0 : decode cX4_tellSwornTo 0 = .ok (.aload_n 0, 1) := by decide +kernel
theorem dX4_tellSwornTo_1 : decode cX4_tellSwornTo 1 = .ok (.getfield 17, 3) := by decide +kernel
theorem dX4_tellSwornTo_4 : decode cX4_tellSwornTo 4 = .ok (.bipush 6, 2) := by decide +kernel
theorem dX4_tellSwornTo_6 : decode cX4_tellSwornTo 6 = .ok (.aload_n 1, 1) := by decide +kernel
theorem dX4_tellSwornTo_7 : decode cX4_tellSwornTo 7 = .ok (.iload_n 2, 1) := by decide +kernel
theorem dX4_tellSwornTo_8 : decode cX4_tellSwornTo 8 = .ok (.invokevirtual 21, 3) := by decide +kernel
theorem dX4_tellSwornTo_11 : decode cX4_tellSwornTo 11 = .ok (.iastore, 1) := by decide +kernel
theorem dX4_tellSwornTo_12 : decode cX4_tellSwornTo 12 = .ok (.aload_n 0, 1) := by decide +kernel
theorem dX4_tellSwornTo_13 : decode cX4_tellSwornTo 13 = .ok (.getfield 17, 3) := by decide +kernel
theorem dX4_tellSwornTo_16 : decode cX4_tellSwornTo 16 = .ok (.bipush 7, 2) := by decide +kernel
theorem dX4_tellSwornTo_18 : decode cX4_tellSwornTo 18 = .ok (.aload_n 1, 1) := by decide +kernel
theorem dX4_tellSwornTo_19 : decode cX4_tellSwornTo 19 = .ok (.getfield 27, 3) := by decide +kernel
theorem dX4_tellSwornTo_22 : decode cX4_tellSwornTo 22 = .ok (.iload_n 2, 1) := by decide +kernel
theorem dX4_tellSwornTo_23 : decode cX4_tellSwornTo 23 = .ok (.iaload, 1) := by decide +kernel
theorem dX4_tellSwornTo_24 : decode cX4_tellSwornTo 24 = .ok (.iastore, 1) := by decide +kernel
theorem dX4_tellSwornTo_25 : decode cX4_tellSwornTo 25 = .ok (.aload_n 0, 1) := by decide +kernel
theorem dX4_tellSwornTo_26 : decode cX4_tellSwornTo 26 = .ok (.getfield 17, 3) := by decide +kernel
theorem dX4_tellSwornTo_29 : decode cX4_tellSwornTo 29 = .ok (.bipush 8, 2) := by decide +kernel
theorem dX4_tellSwornTo_31 : decode cX4_tellSwornTo 31 = .ok (.aload_n 1, 1) := by decide +kernel
theorem dX4_tellSwornTo_32 : decode cX4_tellSwornTo 32 = .ok (.getfield 30, 3) := by decide +kernel
theorem dX4_tellSwornTo_35 : decode cX4_tellSwornTo 35 = .ok (.iload_n 2, 1) := by decide +kernel
theorem dX4_tellSwornTo_36 : decode cX4_tellSwornTo 36 = .ok (.iaload, 1) := by decide +kernel
theorem dX4_tellSwornTo_37 : decode cX4_tellSwornTo 37 = .ok (.iastore, 1) := by decide +kernel
theorem dX4_tellSwornTo_38 : decode cX4_tellSwornTo 38 = .ok (.aload_n 0, 1) := by decide +kernel
theorem dX4_tellSwornTo_39 : decode cX4_tellSwornTo 39 = .ok (.getfield 17, 3) := by decide +kernel
theorem dX4_tellSwornTo_42 : decode cX4_tellSwornTo 42 = .ok (.bipush 9, 2) := by decide +kernel
theorem dX4_tellSwornTo_44 : decode cX4_tellSwornTo 44 = .ok (.aload_n 1, 1) := by decide +kernel
theorem dX4_tellSwornTo_45 : decode cX4_tellSwornTo 45 = .ok (.getfield 36, 3) := by decide +kernel
theorem dX4_tellSwornTo_48 : decode cX4_tellSwornTo 48 = .ok (.iload_n 2, 1) := by decide +kernel
theorem dX4_tellSwornTo_49 : decode cX4_tellSwornTo 49 = .ok (.iaload, 1) := by decide +kernel
theorem dX4_tellSwornTo_50 : decode cX4_tellSwornTo 50 = .ok (.iastore, 1) := by decide +kernel
theorem dX4_tellSwornTo_51 : decode cX4_tellSwornTo 51 = .ok (.return_, 1) := by decide +kernel
theorem dX4_tellTime_0 : decode cX4_tellTime 0 = .ok (.aload_n 0, 1) := by decide +kernel
theorem dX4_tellTime_1 : decode cX4_tellTime 1 = .ok (.getfield 17, 3) := by decide +kernel
theorem dX4_tellTime_4 : decode cX4_tellTime 4 = .ok (.bipush 10, 2) := by decide +kernel
theorem dX4_tellTime_6 : decode cX4_tellTime 6 = .ok (.iload_n 1, 1) := by decide +kernel
theorem dX4_tellTime_7 : decode cX4_tellTime 7 = .ok (.iastore, 1) := by decide +kernel
theorem dX4_tellTime_8 : decode cX4_tellTime 8 = .ok (.aload_n 0, 1) := by decide +kernel
theorem dX4_tellTime_9 : decode cX4_tellTime 9 = .ok (.getfield 17, 3) := by decide +kernel
theorem dX4_tellTime_12 : decode cX4_tellTime 12 = .ok (.bipush 11, 2) := by decide +kernel
theorem dX4_tellTime_14 : decode cX4_tellTime 14 = .ok (.iload_n 2, 1) := by decide +kernel
theorem dX4_tellTime_15 : decode cX4_tellTime 15 = .ok (.iastore, 1) := by decide +kernel
theorem dX4_tellTime_16 : decode cX4_tellTime 16 = .ok (.return_, 1) := by decide +kernel
theorem dX5_init_0 : decode cX5_init 0 = .ok (.aload_n 0, 1) := by decide +kernel
theorem dX5_init_1 : decode cX5_init 1 = .ok (.invokespecial 3, 3) := by decide +kernel
theorem dX5_init_4 : decode cX5_init 4 = .ok (.aload_n 0, 1) := by decide +kernel
theorem dX5_init_5 : decode cX5_init 5 = .ok (.aload_n 1, 1) := by decide +kernel
theorem dX5_init_6 : decode cX5_init 6 = .ok (.putfield 9, 3) := by decide +kernel
theorem dX5_init_9 : decode cX5_init 9 = .ok (.return_, 1) := by decide +kernel
theorem dX5_search_0 : decode cX5_search 0 = .ok (.aload_n 0, 1) := by decide +kernel
theorem dX5_search_1 : decode cX5_search 1 = .ok (.iconst 0, 1) := by decide +kernel
theorem dX5_search_2 : decode cX5_search 2 = .ok (.putfield 15, 3) := by decide +kernel
theorem dX5_search_5 : decode cX5_search 5 = .ok (.aload_n 0, 1) := by decide +kernel
theorem dX5_search_6 : decode cX5_search 6 = .ok (.iload_n 2, 1) := by decide +kernel
theorem dX5_search_7 : decode cX5_search 7 = .ok (.invokevirtual 19, 3) := by decide +kernel
theorem dX5_search_10 : decode cX5_search 10 = .ok (.istore 4, 2) := by decide +kernel
theorem dX5_search_12 : decode cX5_search 12 = .ok (.iconst 0, 1) := by decide +kernel
theorem dX5_search_13 : decode cX5_search 13 = .ok (.istore 5, 2) := by decide +kernel
theorem dX5_search_15 : decode cX5_search 15 = .ok (.iconst 0, 1) := by decide +kernel
theorem dX5_search_16 : decode cX5_search 16 = .ok (.istore 6, 2) := by decide +kernel
theorem dX5_search_18 : decode cX5_search 18 = .ok (.iload 6, 2) := by decide +kernel
theorem dX5_search_20 : decode cX5_search 20 = .ok (.iconst 1, 1) := by decide +kernel
theorem dX5_search_21 : decode cX5_search 21 = .ok (.iload 4, 2) := by decide +kernel
theorem dX5_search_23 : decode cX5_search 23 = .ok (.invokestatic 23, 3) := by decide +kernel
theorem dX5_search_26 : decode cX5_search 26 = .ok (.ishl, 1) := by decide +kernel
theorem dX5_search_27 : decode cX5_search 27 = .ok (.if_icmp .ge 95, 3) := by decide +kernel
theorem dX5_search_30 : decode cX5_search 30 = .ok (.iload 5, 2) := by decide +kernel
theorem dX5_search_32 : decode cX5_search 32 = .ok (.invokestatic 23, 3) := by decide +kernel
theorem dX5_search_35 : decode cX5_search 35 = .ok (.iconst 5, 1) := by decide +kernel
theorem dX5_search_36 : decode cX5_search 36 = .ok (.if_icmp .gt 71, 3) := by decide +kernel
theorem dX5_search_39 : decode cX5_search 39 = .ok (.aload_n 0, 1) := by decide +kernel
theorem dX5_search_40 : decode cX5_search 40 = .ok (.iload 5, 2) := by decide +kernel
theorem dX5_search_42 : decode cX5_search 42 = .ok (.iload_n 2, 1) := by decide +kernel
theorem dX5_search_43 : decode cX5_search 43 = .ok (.invokevirtual 28, 3) := by decide +kernel
theorem dX5_search_46 : decode cX5_search 46 = .ok (.istore 7, 2) := by decide +kernel
theorem dX5_search_48 : decode cX5_search 48 = .ok (.iload 7, 2) := by decide +kernel
theorem dX5_search_50 : decode cX5_search 50 = .ok (.iconst (-1), 1) := by decide +kernel
theorem dX5_search_51 : decode cX5_search 51 = .ok (.if_icmp .eq 56, 3) := by decide +kernel
theorem dX5_search_54 : decode cX5_search 54 = .ok (.aload_n 0, 1) := by decide +kernel
theorem dX5_search_55 : decode cX5_search 55 = .ok (.iload 7, 2) := by decide +kernel
theorem dX5_search_57 : decode cX5_search 57 = .ok (.iload 5, 2) := by decide +kernel
theorem dX5_search_59 : decode cX5_search 59 = .ok (.invokevirtual 32, 3) := by decide +kernel
theorem dX5_search_62 : decode cX5_search 62 = .ok (.ifCond .eq 45, 3) := by decide +kernel
theorem dX5_search_65 : decode cX5_search 65 = .ok (.aload_n 0, 1) := by decide +kernel
theorem dX5_search_66 : decode cX5_search 66 = .ok (.getfield 9, 3) := by decide +kernel
theorem dX5_search_69 : decode cX5_search 69 = .ok (.iload_n 1, 1) := by decide +kernel
theorem dX5_search_70 : decode cX5_search 70 = .ok (.iload_n 2, 1) := by decide +kernel
theorem dX5_search_71 : decode cX5_search 71 = .ok (.iload 5, 2) := by decide +kernel
theorem dX5_search_73 : decode cX5_search 73 = .ok (.ior, 1) := by decide +kernel
theorem dX5_search_74 : decode cX5_search 74 = .ok (.iload_n 3, 1) := by decide +kernel
theorem dX5_search_75 : decode cX5_search 75 = .ok (.invokevirtual 36, 3) := by decide +kernel
theorem dX5_search_78 : decode cX5_search 78 = .ok (.ifCond .eq 29, 3) := by decide +kernel
theorem dX5_search_81 : decode cX5_search 81 = .ok (.aload_n 0, 1) := by decide +kernel
theorem dX5_search_82 : decode cX5_search 82 = .ok (.iconst 1, 1) := by decide +kernel
theorem dX5_search_83 : decode cX5_search 83 = .ok (.putfield 15, 3) := by decide +kernel
theorem dX5_search_86 : decode cX5_search 86 = .ok (.aload_n 0, 1) := by decide +kernel
theorem dX5_search_87 : decode cX5_search 87 = .ok (.iload 7, 2) := by decide +kernel
theorem dX5_search_89 : decode cX5_search 89 = .ok (.putfield 42, 3) := by decide +kernel
theorem dX5_search_92 : decode cX5_search 92 = .ok (.aload_n 0, 1) := by decide +kernel
theorem dX5_search_93 : decode cX5_search 93 = .ok (.iload 5, 2) := by decide +kernel
theorem dX5_search_95 : decode cX5_search 95 = .ok (.invokestatic 23, 3) := by decide +kernel
theorem dX5_search_98 : decode cX5_search 98 = .ok (.putfield 46, 3) := by decide +kernel
theorem dX5_search_101 : decode cX5_search 101 = .ok (.aload_n 0, 1) := by decide +kernel
theorem dX5_search_102 : decode cX5_search 102 = .ok (.iload 5, 2) := by decide +kernel
theorem dX5_search_104 : decode cX5_search 104 = .ok (.putfield 49, 3) := by decide +kernel
theorem dX5_search_107 : decode cX5_search 107 = .ok (.iload 5, 2) := by decide +kernel
theorem dX5_search_109 : decode cX5_search 109 = .ok (.iload 4, 2) := by decide +kernel
theorem dX5_search_111 : decode cX5_search 111 = .ok (.invokestatic 52, 3) := by decide +kernel
theorem dX5_search_114 : decode cX5_search 114 = .ok (.istore 5, 2) := by decide +kernel
theorem dX5_search_116 : decode cX5_search 116 = .ok (.iinc 6 1, 3) := by decide +kernel
theorem dX5_search_119 : decode cX5_search 119 = .ok (.goto (-101), 3) := by decide +kernel
theorem dX5_search_122 : decode cX5_search 122 = .ok (.aload_n 0, 1) := by decide +kernel
theorem dX5_search_123 : decode cX5_search 123 = .ok (.getfield 15, 3) := by decide +kernel
theorem dX5_search_126 : decode cX5_search 126 = .ok (.ireturn, 1) := by decide +kernel
theorem dX5_whoCouldSwear_0 : decode cX5_whoCouldSwear 0 = .ok (.iconst 0, 1) := by decide +kernel
theorem dX5_whoCouldSwear_1 : decode cX5_whoCouldSwear 1 = .ok (.istore_n 2, 1) := by decide +kernel
theorem dX5_whoCouldSwear_2 : decode cX5_whoCouldSwear 2 = .ok (.iconst 0, 1) := by decide +kernel
theorem dX5_whoCouldSwear_3 : decode cX5_whoCouldSwear 3 = .ok (.istore_n 3, 1) := by decide +kernel
theorem dX5_whoCouldSwear_4 : decode cX5_whoCouldSwear 4 = .ok (.iload_n 3, 1) := by decide +kernel
theorem dX5_whoCouldSwear_5 : decode cX5_whoCouldSwear 5 = .ok (.bipush 16, 2) := by decide +kernel
theorem dX5_whoCouldSwear_7 : decode cX5_whoCouldSwear 7 = .ok (.if_icmp .ge 35, 3) := by decide +kernel
theorem dX5_whoCouldSwear_10 : decode cX5_whoCouldSwear 10 = .ok (.iload_n 1, 1) := by decide +kernel
theorem dX5_whoCouldSwear_11 : decode cX5_whoCouldSwear 11 = .ok (.iload_n 3, 1) := by decide +kernel
theorem dX5_whoCouldSwear_12 : decode cX5_whoCouldSwear 12 = .ok (.invokestatic 55, 3) := by decide +kernel
theorem dX5_whoCouldSwear_15 : decode cX5_whoCouldSwear 15 = .ok (.ifCond .ne 21, 3) := by decide +kernel
theorem dX5_whoCouldSwear_18 : decode cX5_whoCouldSwear 18 = .ok (.aload_n 0, 1) := by decide +kernel
theorem dX5_whoCouldSwear_19 : decode cX5_whoCouldSwear 19 = .ok (.getfield 9, 3) := by decide +kernel
theorem dX5_whoCouldSwear_22 : decode cX5_whoCouldSwear 22 = .ok (.getfield 58, 3) := by decide +kernel
theorem dX5_whoCouldSwear_25 : decode cX5_whoCouldSwear 25 = .ok (.iload_n 3, 1) := by decide +kernel
theorem dX5_whoCouldSwear_26 : decode cX5_whoCouldSwear 26 = .ok (.iaload, 1) := by decide +kernel
theorem dX5_whoCouldSwear_27 : decode cX5_whoCouldSwear 27 = .ok (.ifCond .eq 9, 3) := by decide +kernel
theorem dX5_whoCouldSwear_30 : decode cX5_whoCouldSwear 30 = .ok (.iload_n 2, 1) := by decide +kernel
theorem dX5_whoCouldSwear_31 : decode cX5_whoCouldSwear 31 = .ok (.iconst 1, 1) := by decide +kernel
theorem dX5_whoCouldSwear_32 : decode cX5_whoCouldSwear 32 = .ok (.iload_n 3, 1) := by decide +kernel
theorem dX5_whoCouldSwear_33 : decode cX5_whoCouldSwear 33 = .ok (.ishl, 1) := by decide +kernel
theorem dX5_whoCouldSwear_34 : decode cX5_whoCouldSwear 34 = .ok (.ior, 1) := by decide +kernel
theorem dX5_whoCouldSwear_35 : decode cX5_whoCouldSwear 35 = .ok (.istore_n 2, 1) := by decide +kernel
theorem dX5_whoCouldSwear_36 : decode cX5_whoCouldSwear 36 = .ok (.iinc 3 1, 3) := by decide +kernel
theorem dX5_whoCouldSwear_39 : decode cX5_whoCouldSwear 39 = .ok (.goto (-35), 3) := by decide +kernel
theorem dX5_whoCouldSwear_42 : decode cX5_whoCouldSwear 42 = .ok (.iload_n 2, 1) := by decide +kernel
theorem dX5_whoCouldSwear_43 : decode cX5_whoCouldSwear 43 = .ok (.ireturn, 1) := by decide +kernel
theorem dX5_isBetter_0 : decode cX5_isBetter 0 = .ok (.aload_n 0, 1) := by decide +kernel
theorem dX5_isBetter_1 : decode cX5_isBetter 1 = .ok (.getfield 15, 3) := by decide +kernel
theorem dX5_isBetter_4 : decode cX5_isBetter 4 = .ok (.ifCond .eq 11, 3) := by decide +kernel
theorem dX5_isBetter_7 : decode cX5_isBetter 7 = .ok (.iload_n 1, 1) := by decide +kernel
theorem dX5_isBetter_8 : decode cX5_isBetter 8 = .ok (.aload_n 0, 1) := by decide +kernel
theorem dX5_isBetter_9 : decode cX5_isBetter 9 = .ok (.getfield 42, 3) := by decide +kernel
theorem dX5_isBetter_12 : decode cX5_isBetter 12 = .ok (.if_icmp .ge 5, 3) := by decide +kernel
theorem dX5_isBetter_15 : decode cX5_isBetter 15 = .ok (.iconst 1, 1) := by decide +kernel
theorem dX5_isBetter_16 : decode cX5_isBetter 16 = .ok (.ireturn, 1) := by decide +kernel
theorem dX5_isBetter_17 : decode cX5_isBetter 17 = .ok (.iload_n 1, 1) := by decide +kernel
theorem dX5_isBetter_18 : decode cX5_isBetter 18 = .ok (.aload_n 0, 1) := by decide +kernel
theorem dX5_isBetter_19 : decode cX5_isBetter 19 = .ok (.getfield 42, 3) := by decide +kernel
theorem dX5_isBetter_22 : decode cX5_isBetter 22 = .ok (.if_icmp .ne 18, 3) := by decide +kernel
theorem dX5_isBetter_25 : decode cX5_isBetter 25 = .ok (.iload_n 2, 1) := by decide +kernel
theorem dX5_isBetter_26 : decode cX5_isBetter 26 = .ok (.invokestatic 23, 3) := by decide +kernel
theorem dX5_isBetter_29 : decode cX5_isBetter 29 = .ok (.aload_n 0, 1) := by decide +kernel
theorem dX5_isBetter_30 : decode cX5_isBetter 30 = .ok (.getfield 46, 3) := by decide +kernel
theorem dX5_isBetter_33 : decode cX5_isBetter 33 = .ok (.if_icmp .ge 7, 3) := by decide +kernel
theorem dX5_isBetter_36 : decode cX5_isBetter 36 = .ok (.iconst 1, 1) := by decide +kernel
theorem dX5_isBetter_37 : decode cX5_isBetter 37 = .ok (.goto 4, 3) := by decide +kernel
theorem dX5_isBetter_40 : decode cX5_isBetter 40 = .ok (.iconst 0, 1) := by decide +kernel
theorem dX5_isBetter_41 : decode cX5_isBetter 41 = .ok (.ireturn, 1) := by decide +kernel
theorem dX5_priceOfAll_0 : decode cX5_priceOfAll 0 = .ok (.iconst 0, 1) := by decide +kernel
theorem dX5_priceOfAll_1 : decode cX5_priceOfAll 1 = .ok (.istore_n 3, 1) := by decide +kernel
theorem dX5_priceOfAll_2 : decode cX5_priceOfAll 2 = .ok (.iconst 0, 1) := by decide +kernel
theorem dX5_priceOfAll_3 : decode cX5_priceOfAll 3 = .ok (.istore 4, 2) := by decide +kernel
theorem dX5_priceOfAll_5 : decode cX5_priceOfAll 5 = .ok (.iload 4, 2) := by decide +kernel
theorem dX5_priceOfAll_7 : decode cX5_priceOfAll 7 = .ok (.bipush 16, 2) := by decide +kernel
theorem dX5_priceOfAll_9 : decode cX5_priceOfAll 9 = .ok (.if_icmp .ge 45, 3) := by decide +kernel
theorem dX5_priceOfAll_12 : decode cX5_priceOfAll 12 = .ok (.iload_n 1, 1) := by decide +kernel
theorem dX5_priceOfAll_13 : decode cX5_priceOfAll 13 = .ok (.iload 4, 2) := by decide +kernel
theorem dX5_priceOfAll_15 : decode cX5_priceOfAll 15 = .ok (.invokestatic 55, 3) := by decide +kernel
theorem dX5_priceOfAll_18 : decode cX5_priceOfAll 18 = .ok (.ifCond .eq 30, 3) := by decide +kernel
theorem dX5_priceOfAll_21 : decode cX5_priceOfAll 21 = .ok (.aload_n 0, 1) := by decide +kernel
theorem dX5_priceOfAll_22 : decode cX5_priceOfAll 22 = .ok (.getfield 9, 3) := by decide +kernel
theorem dX5_priceOfAll_25 : decode cX5_priceOfAll 25 = .ok (.iload_n 2, 1) := by decide +kernel
theorem dX5_priceOfAll_26 : decode cX5_priceOfAll 26 = .ok (.iload_n 1, 1) := by decide +kernel
theorem dX5_priceOfAll_27 : decode cX5_priceOfAll 27 = .ok (.ior, 1) := by decide +kernel
theorem dX5_priceOfAll_28 : decode cX5_priceOfAll 28 = .ok (.iload 4, 2) := by decide +kernel
theorem dX5_priceOfAll_30 : decode cX5_priceOfAll 30 = .ok (.invokevirtual 62, 3) := by decide +kernel
theorem dX5_priceOfAll_33 : decode cX5_priceOfAll 33 = .ok (.istore 5, 2) := by decide +kernel
theorem dX5_priceOfAll_35 : decode cX5_priceOfAll 35 = .ok (.iload 5, 2) := by decide +kernel
theorem dX5_priceOfAll_37 : decode cX5_priceOfAll 37 = .ok (.iconst (-1), 1) := by decide +kernel
theorem dX5_priceOfAll_38 : decode cX5_priceOfAll 38 = .ok (.if_icmp .ne 5, 3) := by decide +kernel
theorem dX5_priceOfAll_41 : decode cX5_priceOfAll 41 = .ok (.iconst (-1), 1) := by decide +kernel
theorem dX5_priceOfAll_42 : decode cX5_priceOfAll 42 = .ok (.ireturn, 1) := by decide +kernel
theorem dX5_priceOfAll_43 : decode cX5_priceOfAll 43 = .ok (.iload_n 3, 1) := by decide +kernel
theorem dX5_priceOfAll_44 : decode cX5_priceOfAll 44 = .ok (.iload 5, 2) := by decide +kernel
theorem dX5_priceOfAll_46 : decode cX5_priceOfAll 46 = .ok (.iadd, 1) := by decide +kernel
theorem dX5_priceOfAll_47 : decode cX5_priceOfAll 47 = .ok (.istore_n 3, 1) := by decide +kernel
theorem dX5_priceOfAll_48 : decode cX5_priceOfAll 48 = .ok (.iinc 4 1, 3) := by decide +kernel
theorem dX5_priceOfAll_51 : decode cX5_priceOfAll 51 = .ok (.goto (-46), 3) := by decide +kernel
theorem dX5_priceOfAll_54 : decode cX5_priceOfAll 54 = .ok (.iload_n 3, 1) := by decide +kernel
theorem dX5_priceOfAll_55 : decode cX5_priceOfAll 55 = .ok (.ireturn, 1) := by decide +kernel
theorem dX6_init_0 : decode cX6_init 0 = .ok (.aload_n 0, 1) := by decide +kernel
theorem dX6_init_1 : decode cX6_init 1 = .ok (.invokespecial 3, 3) := by decide +kernel
theorem dX6_init_4 : decode cX6_init 4 = .ok (.aload_n 0, 1) := by decide +kernel
theorem dX6_init_5 : decode cX6_init 5 = .ok (.bipush 16, 2) := by decide +kernel
theorem dX6_init_7 : decode cX6_init 7 = .ok (.newarray .int, 2) := by decide +kernel
theorem dX6_init_9 : decode cX6_init 9 = .ok (.putfield 9, 3) := by decide +kernel
theorem dX6_init_12 : decode cX6_init 12 = .ok (.aload_n 0, 1) := by decide +kernel
theorem dX6_init_13 : decode cX6_init 13 = .ok (.bipush 16, 2) := by decide +kernel
theorem dX6_init_15 : decode cX6_init 15 = .ok (.newarray .int, 2) := by decide +kernel
theorem dX6_init_17 : decode cX6_init 17 = .ok (.putfield 15, 3) := by decide +kernel
theorem dX6_init_20 : decode cX6_init 20 = .ok (.aload_n 0, 1) := by decide +kernel
theorem dX6_init_21 : decode cX6_init 21 = .ok (.bipush 16, 2) := by decide +kernel
theorem dX6_init_23 : decode cX6_init 23 = .ok (.newarray .int, 2) := by decide +kernel
theorem dX6_init_25 : decode cX6_init 25 = .ok (.putfield 18, 3) := by decide +kernel
theorem dX6_init_28 : decode cX6_init 28 = .ok (.aload_n 0, 1) := by decide +kernel
theorem dX6_init_29 : decode cX6_init 29 = .ok (.sipush 256, 3) := by decide +kernel
theorem dX6_init_32 : decode cX6_init 32 = .ok (.newarray .int, 2) := by decide +kernel
theorem dX6_init_34 : decode cX6_init 34 = .ok (.putfield 21, 3) := by decide +kernel
theorem dX6_init_37 : decode cX6_init 37 = .ok (.aload_n 0, 1) := by decide +kernel
theorem dX6_init_38 : decode cX6_init 38 = .ok (.new 24, 3) := by decide +kernel
theorem dX6_init_41 : decode cX6_init 41 = .ok (.dup, 1) := by decide +kernel
theorem dX6_init_42 : decode cX6_init 42 = .ok (.invokespecial 26, 3) := by decide +kernel
theorem dX6_init_45 : decode cX6_init 45 = .ok (.putfield 27, 3) := by decide +kernel
theorem dX6_init_48 : decode cX6_init 48 = .ok (.aload_n 0, 1) := by decide +kernel
theorem dX6_init_49 : decode cX6_init 49 = .ok (.aload_n 1, 1) := by decide +kernel
theorem dX6_init_50 : decode cX6_init 50 = .ok (.putfield 31, 3) := by decide +kernel
theorem dX6_init_53 : decode cX6_init 53 = .ok (.aload_n 0, 1) := by decide +kernel
theorem dX6_init_54 : decode cX6_init 54 = .ok (.aload_n 2, 1) := by decide +kernel
theorem dX6_init_55 : decode cX6_init 55 = .ok (.putfield 35, 3) := by decide +kernel
theorem dX6_init_58 : decode cX6_init 58 = .ok (.return_, 1) := by decide +kernel
theorem dX6_reckon_0 : decode cX6_reckon 0 = .ok (.aload_n 0, 1) := by decide +kernel
theorem dX6_reckon_1 : decode cX6_reckon 1 = .ok (.aload_n 1, 1) := by decide +kernel
theorem dX6_reckon_2 : decode cX6_reckon 2 = .ok (.putfield 31, 3) := by decide +kernel
theorem dX6_reckon_5 : decode cX6_reckon 5 = .ok (.aload_n 0, 1) := by decide +kernel
theorem dX6_reckon_6 : decode cX6_reckon 6 = .ok (.aload_n 2, 1) := by decide +kernel
theorem dX6_reckon_7 : decode cX6_reckon 7 = .ok (.putfield 35, 3) := by decide +kernel
theorem dX6_reckon_10 : decode cX6_reckon 10 = .ok (.aload_n 0, 1) := by decide +kernel
theorem dX6_reckon_11 : decode cX6_reckon 11 = .ok (.aload_n 0, 1) := by decide +kernel
theorem dX6_reckon_12 : decode cX6_reckon 12 = .ok (.getfield 31, 3) := by decide +kernel
theorem dX6_reckon_15 : decode cX6_reckon 15 = .ok (.invokevirtual 39, 3) := by decide +kernel
theorem dX6_reckon_18 : decode cX6_reckon 18 = .ok (.putfield 45, 3) := by decide +kernel
theorem dX6_reckon_21 : decode cX6_reckon 21 = .ok (.aload_n 0, 1) := by decide +kernel
theorem dX6_reckon_22 : decode cX6_reckon 22 = .ok (.getfield 27, 3) := by decide +kernel
theorem dX6_reckon_25 : decode cX6_reckon 25 = .ok (.aload_n 0, 1) := by decide +kernel
theorem dX6_reckon_26 : decode cX6_reckon 26 = .ok (.getfield 31, 3) := by decide +kernel
theorem dX6_reckon_29 : decode cX6_reckon 29 = .ok (.getfield 49, 3) := by decide +kernel
theorem dX6_reckon_32 : decode cX6_reckon 32 = .ok (.iconst 0, 1) := by decide +kernel
theorem dX6_reckon_33 : decode cX6_reckon 33 = .ok (.invokevirtual 52, 3) := by decide +kernel
theorem dX6_reckon_36 : decode cX6_reckon 36 = .ok (.aload_n 0, 1) := by decide +kernel
theorem dX6_reckon_37 : decode cX6_reckon 37 = .ok (.invokevirtual 56, 3) := by decide +kernel
theorem dX6_reckon_40 : decode cX6_reckon 40 = .ok (.iconst 0, 1) := by decide +kernel
theorem dX6_reckon_41 : decode cX6_reckon 41 = .ok (.istore_n 3, 1) := by decide +kernel
theorem dX6_reckon_42 : decode cX6_reckon 42 = .ok (.iload_n 3, 1) := by decide +kernel
theorem dX6_reckon_43 : decode cX6_reckon 43 = .ok (.bipush 16, 2) := by decide +kernel
theorem dX6_reckon_45 : decode cX6_reckon 45 = .ok (.if_icmp .ge 16, 3) := by decide +kernel
theorem dX6_reckon_48 : decode cX6_reckon 48 = .ok (.aload_n 0, 1) := by decide +kernel
theorem dX6_reckon_49 : decode cX6_reckon 49 = .ok (.getfield 18, 3) := by decide +kernel
theorem dX6_reckon_52 : decode cX6_reckon 52 = .ok (.iload_n 3, 1) := by decide +kernel
theorem dX6_reckon_53 : decode cX6_reckon 53 = .ok (.iconst 0, 1) := by decide +kernel
theorem dX6_reckon_54 : decode cX6_reckon 54 = .ok (.iastore, 1) := by decide +kernel
theorem dX6_reckon_55 : decode cX6_reckon 55 = .ok (.iinc 3 1, 3) := by decide +kernel
theorem dX6_reckon_58 : decode cX6_reckon 58 = .ok (.goto (-16), 3) := by decide +kernel
theorem dX6_reckon_61 : decode cX6_reckon 61 = .ok (.iconst 1, 1) := by decide +kernel
theorem dX6_reckon_62 : decode cX6_reckon 62 = .ok (.istore_n 3, 1) := by decide +kernel
theorem dX6_reckon_63 : decode cX6_reckon 63 = .ok (.iload_n 3, 1) := by decide +kernel
theorem dX6_reckon_64 : decode cX6_reckon 64 = .ok (.aload_n 0, 1) := by decide +kernel
theorem dX6_reckon_65 : decode cX6_reckon 65 = .ok (.getfield 59, 3) := by decide +kernel
theorem dX6_reckon_68 : decode cX6_reckon 68 = .ok (.if_icmp .ge 67, 3) := by decide +kernel
theorem dX6_reckon_71 : decode cX6_reckon 71 = .ok (.iconst 0, 1) := by decide +kernel
theorem dX6_reckon_72 : decode cX6_reckon 72 = .ok (.istore 4, 2) := by decide +kernel
theorem dX6_reckon_74 : decode cX6_reckon 74 = .ok (.iload 4, 2) := by decide +kernel
theorem dX6_reckon_76 : decode cX6_reckon 76 = .ok (.iload_n 3, 1) := by decide +kernel
theorem dX6_reckon_77 : decode cX6_reckon 77 = .ok (.if_icmp .ge 52, 3) := by decide +kernel
theorem dX6_reckon_80 : decode cX6_reckon 80 = .ok (.aload_n 0, 1) := by decide +kernel
theorem dX6_reckon_81 : decode cX6_reckon 81 = .ok (.aload_n 0, 1) := by decide +kernel
theorem dX6_reckon_82 : decode cX6_reckon 82 = .ok (.getfield 15, 3) := by decide +kernel
theorem dX6_reckon_85 : decode cX6_reckon 85 = .ok (.iload 4, 2) := by decide +kernel
theorem dX6_reckon_87 : decode cX6_reckon 87 = .ok (.iaload, 1) := by decide +kernel
theorem dX6_reckon_88 : decode cX6_reckon 88 = .ok (.aload_n 0, 1) := by decide +kernel
theorem dX6_reckon_89 : decode cX6_reckon 89 = .ok (.getfield 15, 3) := by decide +kernel
theorem dX6_reckon_92 : decode cX6_reckon 92 = .ok (.iload_n 3, 1) := by decide +kernel
theorem dX6_reckon_93 : decode cX6_reckon 93 = .ok (.iaload, 1) := by decide +kernel
theorem dX6_reckon_94 : decode cX6_reckon 94 = .ok (.invokevirtual 62, 3) := by decide +kernel
theorem dX6_reckon_97 : decode cX6_reckon 97 = .ok (.ifCond .eq 26, 3) := by decide +kernel
theorem dX6_reckon_100 : decode cX6_reckon 100 = .ok (.aload_n 0, 1) := by decide +kernel
theorem dX6_reckon_101 : decode cX6_reckon 101 = .ok (.getfield 18, 3) := by decide +kernel
theorem dX6_reckon_104 : decode cX6_reckon 104 = .ok (.aload_n 0, 1) := by decide +kernel
theorem dX6_reckon_105 : decode cX6_reckon 105 = .ok (.getfield 15, 3) := by decide +kernel
theorem dX6_reckon_108 : decode cX6_reckon 108 = .ok (.iload_n 3, 1) := by decide +kernel
theorem dX6_reckon_109 : decode cX6_reckon 109 = .ok (.iaload, 1) := by decide +kernel
theorem dX6_reckon_110 : decode cX6_reckon 110 = .ok (.dup2, 1) := by decide +kernel
theorem dX6_reckon_111 : decode cX6_reckon 111 = .ok (.iaload, 1) := by decide +kernel
theorem dX6_reckon_112 : decode cX6_reckon 112 = .ok (.iconst 1, 1) := by decide +kernel
theorem dX6_reckon_113 : decode cX6_reckon 113 = .ok (.aload_n 0, 1) := by decide +kernel
theorem dX6_reckon_114 : decode cX6_reckon 114 = .ok (.getfield 15, 3) := by decide +kernel
theorem dX6_reckon_117 : decode cX6_reckon 117 = .ok (.iload 4, 2) := by decide +kernel
theorem dX6_reckon_119 : decode cX6_reckon 119 = .ok (.iaload, 1) := by decide +kernel
theorem dX6_reckon_120 : decode cX6_reckon 120 = .ok (.ishl, 1) := by decide +kernel
theorem dX6_reckon_121 : decode cX6_reckon 121 = .ok (.ior, 1) := by decide +kernel
theorem dX6_reckon_122 : decode cX6_reckon 122 = .ok (.iastore, 1) := by decide +kernel
theorem dX6_reckon_123 : decode cX6_reckon 123 = .ok (.iinc 4 1, 3) := by decide +kernel
theorem dX6_reckon_126 : decode cX6_reckon 126 = .ok (.goto (-52), 3) := by decide +kernel
theorem dX6_reckon_129 : decode cX6_reckon 129 = .ok (.iinc 3 1, 3) := by decide +kernel
theorem dX6_reckon_132 : decode cX6_reckon 132 = .ok (.goto (-69), 3) := by decide +kernel
theorem dX6_reckon_135 : decode cX6_reckon 135 = .ok (.return_, 1) := by decide +kernel
theorem dX6_reckonPrices_0 : decode cX6_reckonPrices 0 = .ok (.iconst 0, 1) := by decide +kernel
theorem dX6_reckonPrices_1 : decode cX6_reckonPrices 1 = .ok (.istore_n 1, 1) := by decide +kernel
theorem dX6_reckonPrices_2 : decode cX6_reckonPrices 2 = .ok (.iload_n 1, 1) := by decide +kernel
theorem dX6_reckonPrices_3 : decode cX6_reckonPrices 3 = .ok (.aload_n 0, 1) := by decide +kernel
theorem dX6_reckonPrices_4 : decode cX6_reckonPrices 4 = .ok (.getfield 31, 3) := by decide +kernel
theorem dX6_reckonPrices_7 : decode cX6_reckonPrices 7 = .ok (.getfield 66, 3) := by decide +kernel
theorem dX6_reckonPrices_10 : decode cX6_reckonPrices 10 = .ok (.if_icmp .ge 54, 3) := by decide +kernel
theorem dX6_reckonPrices_13 : decode cX6_reckonPrices 13 = .ok (.iconst 0, 1) := by decide +kernel
theorem dX6_reckonPrices_14 : decode cX6_reckonPrices 14 = .ok (.istore_n 2, 1) := by decide +kernel
theorem dX6_reckonPrices_15 : decode cX6_reckonPrices 15 = .ok (.iload_n 2, 1) := by decide +kernel
theorem dX6_reckonPrices_16 : decode cX6_reckonPrices 16 = .ok (.aload_n 0, 1) := by decide +kernel
theorem dX6_reckonPrices_17 : decode cX6_reckonPrices 17 = .ok (.getfield 31, 3) := by decide +kernel
theorem dX6_reckonPrices_20 : decode cX6_reckonPrices 20 = .ok (.getfield 66, 3) := by decide +kernel
theorem dX6_reckonPrices_23 : decode cX6_reckonPrices 23 = .ok (.if_icmp .ge 35, 3) := by decide +kernel
theorem dX6_reckonPrices_26 : decode cX6_reckonPrices 26 = .ok (.aload_n 0, 1) := by decide +kernel
theorem dX6_reckonPrices_27 : decode cX6_reckonPrices 27 = .ok (.iload_n 2, 1) := by decide +kernel
theorem dX6_reckonPrices_28 : decode cX6_reckonPrices 28 = .ok (.iload_n 1, 1) := by decide +kernel
theorem dX6_reckonPrices_29 : decode cX6_reckonPrices 29 = .ok (.invokevirtual 69, 3) := by decide +kernel
theorem dX6_reckonPrices_32 : decode cX6_reckonPrices 32 = .ok (.ifCond .eq 20, 3) := by decide +kernel
theorem dX6_reckonPrices_35 : decode cX6_reckonPrices 35 = .ok (.aload_n 0, 1) := by decide +kernel
theorem dX6_reckonPrices_36 : decode cX6_reckonPrices 36 = .ok (.getfield 21, 3) := by decide +kernel
theorem dX6_reckonPrices_39 : decode cX6_reckonPrices 39 = .ok (.iload_n 2, 1) := by decide +kernel
theorem dX6_reckonPrices_40 : decode cX6_reckonPrices 40 = .ok (.bipush 16, 2) := by decide +kernel
theorem dX6_reckonPrices_42 : decode cX6_reckonPrices 42 = .ok (.imul, 1) := by decide +kernel
theorem dX6_reckonPrices_43 : decode cX6_reckonPrices 43 = .ok (.iload_n 1, 1) := by decide +kernel
theorem dX6_reckonPrices_44 : decode cX6_reckonPrices 44 = .ok (.iadd, 1) := by decide +kernel
theorem dX6_reckonPrices_45 : decode cX6_reckonPrices 45 = .ok (.aload_n 0, 1) := by decide +kernel
theorem dX6_reckonPrices_46 : decode cX6_reckonPrices 46 = .ok (.iload_n 2, 1) := by decide +kernel
theorem dX6_reckonPrices_47 : decode cX6_reckonPrices 47 = .ok (.iload_n 1, 1) := by decide +kernel
theorem dX6_reckonPrices_48 : decode cX6_reckonPrices 48 = .ok (.invokevirtual 72, 3) := by decide +kernel
theorem dX6_reckonPrices_51 : decode cX6_reckonPrices 51 = .ok (.iastore, 1) := by decide +kernel
theorem dX6_reckonPrices_52 : decode cX6_reckonPrices 52 = .ok (.iinc 2 1, 3) := by decide +kernel
theorem dX6_reckonPrices_55 : decode cX6_reckonPrices 55 = .ok (.goto (-40), 3) := by decide +kernel
theorem dX6_reckonPrices_58 : decode cX6_reckonPrices 58 = .ok (.iinc 1 1, 3) := by decide +kernel
theorem dX6_reckonPrices_61 : decode cX6_reckonPrices 61 = .ok (.goto (-59), 3) := by decide +kernel
theorem dX6_reckonPrices_64 : decode cX6_reckonPrices 64 = .ok (.return_, 1) := by decide +kernel
theorem dX6_leads_0 : decode cX6_leads 0 = .ok (.aload_n 0, 1) := by decide +kernel
theorem dX6_leads_1 : decode cX6_leads 1 = .ok (.getfield 18, 3) := by decide +kernel
theorem dX6_leads_4 : decode cX6_leads 4 = .ok (.iload_n 2, 1) := by decide +kernel
theorem dX6_leads_5 : decode cX6_leads 5 = .ok (.iaload, 1) := by decide +kernel
theorem dX6_leads_6 : decode cX6_leads 6 = .ok (.iload_n 1, 1) := by decide +kernel
theorem dX6_leads_7 : decode cX6_leads 7 = .ok (.invokestatic 76, 3) := by decide +kernel
theorem dX6_leads_10 : decode cX6_leads 10 = .ok (.ireturn, 1) := by decide +kernel
theorem dX6_priceByLaw_0 : decode cX6_priceByLaw 0 = .ok (.aload_n 0, 1) := by decide +kernel
theorem dX6_priceByLaw_1 : decode cX6_priceByLaw 1 = .ok (.getfield 27, 3) := by decide +kernel
theorem dX6_priceByLaw_4 : decode cX6_priceByLaw 4 = .ok (.aload_n 0, 1) := by decide +kernel
theorem dX6_priceByLaw_5 : decode cX6_priceByLaw 5 = .ok (.getfield 31, 3) := by decide +kernel
theorem dX6_priceByLaw_8 : decode cX6_priceByLaw 8 = .ok (.iload_n 2, 1) := by decide +kernel
theorem dX6_priceByLaw_9 : decode cX6_priceByLaw 9 = .ok (.invokevirtual 79, 3) := by decide +kernel
theorem dX6_priceByLaw_12 : decode cX6_priceByLaw 12 = .ok (.aload_n 0, 1) := by decide +kernel
theorem dX6_priceByLaw_13 : decode cX6_priceByLaw 13 = .ok (.getfield 27, 3) := by decide +kernel
theorem dX6_priceByLaw_16 : decode cX6_priceByLaw 16 = .ok (.aload_n 0, 1) := by decide +kernel
theorem dX6_priceByLaw_17 : decode cX6_priceByLaw 17 = .ok (.getfield 31, 3) := by decide +kernel
theorem dX6_priceByLaw_20 : decode cX6_priceByLaw 20 = .ok (.iload_n 1, 1) := by decide +kernel
theorem dX6_priceByLaw_21 : decode cX6_priceByLaw 21 = .ok (.invokevirtual 83, 3) := by decide +kernel
theorem dX6_priceByLaw_24 : decode cX6_priceByLaw 24 = .ok (.aload_n 0, 1) := by decide +kernel
theorem dX6_priceByLaw_25 : decode cX6_priceByLaw 25 = .ok (.getfield 31, 3) := by decide +kernel
theorem dX6_priceByLaw_28 : decode cX6_priceByLaw 28 = .ok (.getfield 86, 3) := by decide +kernel
theorem dX6_priceByLaw_31 : decode cX6_priceByLaw 31 = .ok (.iload_n 2, 1) := by decide +kernel
theorem dX6_priceByLaw_32 : decode cX6_priceByLaw 32 = .ok (.iaload, 1) := by decide +kernel
theorem dX6_priceByLaw_33 : decode cX6_priceByLaw 33 = .ok (.iconst 1, 1) := by decide +kernel
theorem dX6_priceByLaw_34 : decode cX6_priceByLaw 34 = .ok (.if_icmp .ne 15, 3) := by decide +kernel
theorem dX6_priceByLaw_37 : decode cX6_priceByLaw 37 = .ok (.aload_n 0, 1) := by decide +kernel
theorem dX6_priceByLaw_38 : decode cX6_priceByLaw 38 = .ok (.getfield 31, 3) := by decide +kernel
theorem dX6_priceByLaw_41 : decode cX6_priceByLaw 41 = .ok (.getfield 89, 3) := by decide +kernel
theorem dX6_priceByLaw_44 : decode cX6_priceByLaw 44 = .ok (.iload_n 2, 1) := by decide +kernel
theorem dX6_priceByLaw_45 : decode cX6_priceByLaw 45 = .ok (.iaload, 1) := by decide +kernel
theorem dX6_priceByLaw_46 : decode cX6_priceByLaw 46 = .ok (.goto 4, 3) := by decide +kernel
theorem dX6_priceByLaw_49 : decode cX6_priceByLaw 49 = .ok (.iconst 0, 1) := by decide +kernel
theorem dX6_priceByLaw_50 : decode cX6_priceByLaw 50 = .ok (.istore_n 3, 1) := by decide +kernel
theorem dX6_priceByLaw_51 : decode cX6_priceByLaw 51 = .ok (.iload_n 3, 1) := by decide +kernel
theorem dX6_priceByLaw_52 : decode cX6_priceByLaw 52 = .ok (.aload_n 0, 1) := by decide +kernel
theorem dX6_priceByLaw_53 : decode cX6_priceByLaw 53 = .ok (.getfield 35, 3) := by decide +kernel
theorem dX6_priceByLaw_56 : decode cX6_priceByLaw 56 = .ok (.bipush 112, 2) := by decide +kernel
theorem dX6_priceByLaw_58 : decode cX6_priceByLaw 58 = .ok (.sipush 999, 3) := by decide +kernel
theorem dX6_priceByLaw_61 : decode cX6_priceByLaw 61 = .ok (.aload_n 0, 1) := by decide +kernel
theorem dX6_priceByLaw_62 : decode cX6_priceByLaw 62 = .ok (.getfield 27, 3) := by decide +kernel
theorem dX6_priceByLaw_65 : decode cX6_priceByLaw 65 = .ok (.getfield 92, 3) := by decide +kernel
theorem dX6_priceByLaw_68 : decode cX6_priceByLaw 68 = .ok (.invokevirtual 95, 3) := by decide +kernel
theorem dX6_priceByLaw_71 : decode cX6_priceByLaw 71 = .ok (.iadd, 1) := by decide +kernel
theorem dX6_priceByLaw_72 : decode cX6_priceByLaw 72 = .ok (.ireturn, 1) := by decide +kernel
theorem dX6_priceOf_0 : decode cX6_priceOf 0 = .ok (.aload_n 0, 1) := by decide +kernel
theorem dX6_priceOf_1 : decode cX6_priceOf 1 = .ok (.getfield 21, 3) := by decide +kernel
theorem dX6_priceOf_4 : decode cX6_priceOf 4 = .ok (.iload_n 1, 1) := by decide +kernel
theorem dX6_priceOf_5 : decode cX6_priceOf 5 = .ok (.bipush 16, 2) := by decide +kernel
theorem dX6_priceOf_7 : decode cX6_priceOf 7 = .ok (.imul, 1) := by decide +kernel
theorem dX6_priceOf_8 : decode cX6_priceOf 8 = .ok (.iload_n 2, 1) := by decide +kernel
theorem dX6_priceOf_9 : decode cX6_priceOf 9 = .ok (.iadd, 1) := by decide +kernel
theorem dX6_priceOf_10 : decode cX6_priceOf 10 = .ok (.iaload, 1) := by decide +kernel
theorem dX6_priceOf_11 : decode cX6_priceOf 11 = .ok (.ireturn, 1) := by decide +kernel
theorem dX6_leastAsked_0 : decode cX6_leastAsked 0 = .ok (.iconst (-1), 1) := by decide +kernel
theorem dX6_leastAsked_1 : decode cX6_leastAsked 1 = .ok (.istore_n 3, 1) := by decide +kernel
theorem dX6_leastAsked_2 : decode cX6_leastAsked 2 = .ok (.iconst 0, 1) := by decide +kernel
theorem dX6_leastAsked_3 : decode cX6_leastAsked 3 = .ok (.istore 4, 2) := by decide +kernel
theorem dX6_leastAsked_5 : decode cX6_leastAsked 5 = .ok (.iload 4, 2) := by decide +kernel
theorem dX6_leastAsked_7 : decode cX6_leastAsked 7 = .ok (.bipush 16, 2) := by decide +kernel
theorem dX6_leastAsked_9 : decode cX6_leastAsked 9 = .ok (.if_icmp .ge 54, 3) := by decide +kernel
theorem dX6_leastAsked_12 : decode cX6_leastAsked 12 = .ok (.iload_n 1, 1) := by decide +kernel
theorem dX6_leastAsked_13 : decode cX6_leastAsked 13 = .ok (.iload 4, 2) := by decide +kernel
theorem dX6_leastAsked_15 : decode cX6_leastAsked 15 = .ok (.invokestatic 76, 3) := by decide +kernel
theorem dX6_leastAsked_18 : decode cX6_leastAsked 18 = .ok (.ifCond .eq 39, 3) := by decide +kernel
theorem dX6_leastAsked_21 : decode cX6_leastAsked 21 = .ok (.aload_n 0, 1) := by decide +kernel
theorem dX6_leastAsked_22 : decode cX6_leastAsked 22 = .ok (.iload 4, 2) := by decide +kernel
theorem dX6_leastAsked_24 : decode cX6_leastAsked 24 = .ok (.iload_n 2, 1) := by decide +kernel
theorem dX6_leastAsked_25 : decode cX6_leastAsked 25 = .ok (.invokevirtual 69, 3) := by decide +kernel
theorem dX6_leastAsked_28 : decode cX6_leastAsked 28 = .ok (.ifCond .eq 29, 3) := by decide +kernel
theorem dX6_leastAsked_31 : decode cX6_leastAsked 31 = .ok (.aload_n 0, 1) := by decide +kernel
theorem dX6_leastAsked_32 : decode cX6_leastAsked 32 = .ok (.iload 4, 2) := by decide +kernel
theorem dX6_leastAsked_34 : decode cX6_leastAsked 34 = .ok (.iload_n 2, 1) := by decide +kernel
theorem dX6_leastAsked_35 : decode cX6_leastAsked 35 = .ok (.invokevirtual 101, 3) := by decide +kernel
theorem dX6_leastAsked_38 : decode cX6_leastAsked 38 = .ok (.istore 5, 2) := by decide +kernel
theorem dX6_leastAsked_40 : decode cX6_leastAsked 40 = .ok (.iload_n 3, 1) := by decide +kernel
theorem dX6_leastAsked_41 : decode cX6_leastAsked 41 = .ok (.iconst (-1), 1) := by decide +kernel
theorem dX6_leastAsked_42 : decode cX6_leastAsked 42 = .ok (.if_icmp .ne 8, 3) := by decide +kernel
theorem dX6_leastAsked_45 : decode cX6_leastAsked 45 = .ok (.iload 5, 2) := by decide +kernel
theorem dX6_leastAsked_47 : decode cX6_leastAsked 47 = .ok (.goto 9, 3) := by decide +kernel
theorem dX6_leastAsked_50 : decode cX6_leastAsked 50 = .ok (.iload_n 3, 1) := by decide +kernel
theorem dX6_leastAsked_51 : decode cX6_leastAsked 51 = .ok (.iload 5, 2) := by decide +kernel
theorem dX6_leastAsked_53 : decode cX6_leastAsked 53 = .ok (.invokestatic 104, 3) := by decide +kernel
theorem dX6_leastAsked_56 : decode cX6_leastAsked 56 = .ok (.istore_n 3, 1) := by decide +kernel
theorem dX6_leastAsked_57 : decode cX6_leastAsked 57 = .ok (.iinc 4 1, 3) := by decide +kernel
theorem dX6_leastAsked_60 : decode cX6_leastAsked 60 = .ok (.goto (-55), 3) := by decide +kernel
theorem dX6_leastAsked_63 : decode cX6_leastAsked 63 = .ok (.iload_n 3, 1) := by decide +kernel
theorem dX6_leastAsked_64 : decode cX6_leastAsked 64 = .ok (.ireturn, 1) := by decide +kernel
theorem dX6_reachFrom_0 : decode cX6_reachFrom 0 = .ok (.iconst 1, 1) := by decide +kernel
theorem dX6_reachFrom_1 : decode cX6_reachFrom 1 = .ok (.iload_n 1, 1) := by decide +kernel
theorem dX6_reachFrom_2 : decode cX6_reachFrom 2 = .ok (.ishl, 1) := by decide +kernel
theorem dX6_reachFrom_3 : decode cX6_reachFrom 3 = .ok (.istore_n 3, 1) := by decide +kernel
theorem dX6_reachFrom_4 : decode cX6_reachFrom 4 = .ok (.iconst 0, 1) := by decide +kernel
theorem dX6_reachFrom_5 : decode cX6_reachFrom 5 = .ok (.istore 4, 2) := by decide +kernel
theorem dX6_reachFrom_7 : decode cX6_reachFrom 7 = .ok (.iload 4, 2) := by decide +kernel
theorem dX6_reachFrom_9 : decode cX6_reachFrom 9 = .ok (.aload_n 0, 1) := by decide +kernel
theorem dX6_reachFrom_10 : decode cX6_reachFrom 10 = .ok (.getfield 59, 3) := by decide +kernel
theorem dX6_reachFrom_13 : decode cX6_reachFrom 13 = .ok (.if_icmp .ge 46, 3) := by decide +kernel
theorem dX6_reachFrom_16 : decode cX6_reachFrom 16 = .ok (.aload_n 0, 1) := by decide +kernel
theorem dX6_reachFrom_17 : decode cX6_reachFrom 17 = .ok (.getfield 15, 3) := by decide +kernel
theorem dX6_reachFrom_20 : decode cX6_reachFrom 20 = .ok (.iload 4, 2) := by decide +kernel
theorem dX6_reachFrom_22 : decode cX6_reachFrom 22 = .ok (.iaload, 1) := by decide +kernel
theorem dX6_reachFrom_23 : decode cX6_reachFrom 23 = .ok (.istore 5, 2) := by decide +kernel
theorem dX6_reachFrom_25 : decode cX6_reachFrom 25 = .ok (.iload_n 2, 1) := by decide +kernel
theorem dX6_reachFrom_26 : decode cX6_reachFrom 26 = .ok (.iload 5, 2) := by decide +kernel
theorem dX6_reachFrom_28 : decode cX6_reachFrom 28 = .ok (.invokestatic 76, 3) := by decide +kernel
theorem dX6_reachFrom_31 : decode cX6_reachFrom 31 = .ok (.ifCond .eq 22, 3) := by decide +kernel
theorem dX6_reachFrom_34 : decode cX6_reachFrom 34 = .ok (.aload_n 0, 1) := by decide +kernel
theorem dX6_reachFrom_35 : decode cX6_reachFrom 35 = .ok (.getfield 18, 3) := by decide +kernel
theorem dX6_reachFrom_38 : decode cX6_reachFrom 38 = .ok (.iload 5, 2) := by decide +kernel
theorem dX6_reachFrom_40 : decode cX6_reachFrom 40 = .ok (.iaload, 1) := by decide +kernel
theorem dX6_reachFrom_41 : decode cX6_reachFrom 41 = .ok (.iload_n 3, 1) := by decide +kernel
theorem dX6_reachFrom_42 : decode cX6_reachFrom 42 = .ok (.iand, 1) := by decide +kernel
theorem dX6_reachFrom_43 : decode cX6_reachFrom 43 = .ok (.ifCond .eq 10, 3) := by decide +kernel
theorem dX6_reachFrom_46 : decode cX6_reachFrom 46 = .ok (.iload_n 3, 1) := by decide +kernel
theorem dX6_reachFrom_47 : decode cX6_reachFrom 47 = .ok (.iconst 1, 1) := by decide +kernel
theorem dX6_reachFrom_48 : decode cX6_reachFrom 48 = .ok (.iload 5, 2) := by decide +kernel
theorem dX6_reachFrom_50 : decode cX6_reachFrom 50 = .ok (.ishl, 1) := by decide +kernel
theorem dX6_reachFrom_51 : decode cX6_reachFrom 51 = .ok (.ior, 1) := by decide +kernel
theorem dX6_reachFrom_52 : decode cX6_reachFrom 52 = .ok (.istore_n 3, 1) := by decide +kernel
theorem dX6_reachFrom_53 : decode cX6_reachFrom 53 = .ok (.iinc 4 1, 3) := by decide +kernel
theorem dX6_reachFrom_56 : decode cX6_reachFrom 56 = .ok (.goto (-49), 3) := by decide +kernel
theorem dX6_reachFrom_59 : decode cX6_reachFrom 59 = .ok (.iload_n 3, 1) := by decide +kernel
theorem dX6_reachFrom_60 : decode cX6_reachFrom 60 = .ok (.ireturn, 1) := by decide +kernel
theorem dX6_comesToTop_0 : decode cX6_comesToTop 0 = .ok (.aload_n 0, 1) := by decide +kernel
theorem dX6_comesToTop_1 : decode cX6_comesToTop 1 = .ok (.getfield 45, 3) := by decide +kernel
theorem dX6_comesToTop_4 : decode cX6_comesToTop 4 = .ok (.iconst (-1), 1) := by decide +kernel
theorem dX6_comesToTop_5 : decode cX6_comesToTop 5 = .ok (.if_icmp .eq 23, 3) := by decide +kernel
theorem dX6_comesToTop_8 : decode cX6_comesToTop 8 = .ok (.aload_n 0, 1) := by decide +kernel
theorem dX6_comesToTop_9 : decode cX6_comesToTop 9 = .ok (.iload_n 1, 1) := by decide +kernel
theorem dX6_comesToTop_10 : decode cX6_comesToTop 10 = .ok (.iload_n 2, 1) := by decide +kernel
theorem dX6_comesToTop_11 : decode cX6_comesToTop 11 = .ok (.invokevirtual 109, 3) := by decide +kernel
theorem dX6_comesToTop_14 : decode cX6_comesToTop 14 = .ok (.aload_n 0, 1) := by decide +kernel
theorem dX6_comesToTop_15 : decode cX6_comesToTop 15 = .ok (.getfield 45, 3) := by decide +kernel
theorem dX6_comesToTop_18 : decode cX6_comesToTop 18 = .ok (.invokestatic 76, 3) := by decide +kernel
theorem dX6_comesToTop_21 : decode cX6_comesToTop 21 = .ok (.ifCond .eq 7, 3) := by decide +kernel
theorem dX6_comesToTop_24 : decode cX6_comesToTop 24 = .ok (.iconst 1, 1) := by decide +kernel
theorem dX6_comesToTop_25 : decode cX6_comesToTop 25 = .ok (.goto 4, 3) := by decide +kernel
theorem dX6_comesToTop_28 : decode cX6_comesToTop 28 = .ok (.iconst 0, 1) := by decide +kernel
theorem dX6_comesToTop_29 : decode cX6_comesToTop 29 = .ok (.ireturn, 1) := by decide +kernel
theorem dX6_heldOaths_0 : decode cX6_heldOaths 0 = .ok (.iconst 0, 1) := by decide +kernel
theorem dX6_heldOaths_1 : decode cX6_heldOaths 1 = .ok (.istore_n 2, 1) := by decide +kernel
theorem dX6_heldOaths_2 : decode cX6_heldOaths 2 = .ok (.iconst 0, 1) := by decide +kernel
theorem dX6_heldOaths_3 : decode cX6_heldOaths 3 = .ok (.istore_n 3, 1) := by decide +kernel
theorem dX6_heldOaths_4 : decode cX6_heldOaths 4 = .ok (.iload_n 3, 1) := by decide +kernel
theorem dX6_heldOaths_5 : decode cX6_heldOaths 5 = .ok (.aload_n 0, 1) := by decide +kernel
theorem dX6_heldOaths_6 : decode cX6_heldOaths 6 = .ok (.getfield 31, 3) := by decide +kernel
theorem dX6_heldOaths_9 : decode cX6_heldOaths 9 = .ok (.getfield 112, 3) := by decide +kernel
theorem dX6_heldOaths_12 : decode cX6_heldOaths 12 = .ok (.if_icmp .ge 42, 3) := by decide +kernel
theorem dX6_heldOaths_15 : decode cX6_heldOaths 15 = .ok (.aload_n 0, 1) := by decide +kernel
theorem dX6_heldOaths_16 : decode cX6_heldOaths 16 = .ok (.aload_n 0, 1) := by decide +kernel
theorem dX6_heldOaths_17 : decode cX6_heldOaths 17 = .ok (.getfield 31, 3) := by decide +kernel
theorem dX6_heldOaths_20 : decode cX6_heldOaths 20 = .ok (.getfield 115, 3) := by decide +kernel
theorem dX6_heldOaths_23 : decode cX6_heldOaths 23 = .ok (.iload_n 3, 1) := by decide +kernel
theorem dX6_heldOaths_24 : decode cX6_heldOaths 24 = .ok (.iaload, 1) := by decide +kernel
theorem dX6_heldOaths_25 : decode cX6_heldOaths 25 = .ok (.aload_n 0, 1) := by decide +kernel
theorem dX6_heldOaths_26 : decode cX6_heldOaths 26 = .ok (.getfield 31, 3) := by decide +kernel
theorem dX6_heldOaths_29 : decode cX6_heldOaths 29 = .ok (.getfield 118, 3) := by decide +kernel
theorem dX6_heldOaths_32 : decode cX6_heldOaths 32 = .ok (.iload_n 3, 1) := by decide +kernel
theorem dX6_heldOaths_33 : decode cX6_heldOaths 33 = .ok (.iaload, 1) := by decide +kernel
theorem dX6_heldOaths_34 : decode cX6_heldOaths 34 = .ok (.iload_n 1, 1) := by decide +kernel
theorem dX6_heldOaths_35 : decode cX6_heldOaths 35 = .ok (.ior, 1) := by decide +kernel
theorem dX6_heldOaths_36 : decode cX6_heldOaths 36 = .ok (.invokevirtual 121, 3) := by decide +kernel
theorem dX6_heldOaths_39 : decode cX6_heldOaths 39 = .ok (.ifCond .eq 9, 3) := by decide +kernel
theorem dX6_heldOaths_42 : decode cX6_heldOaths 42 = .ok (.iload_n 2, 1) := by decide +kernel
theorem dX6_heldOaths_43 : decode cX6_heldOaths 43 = .ok (.iconst 1, 1) := by decide +kernel
theorem dX6_heldOaths_44 : decode cX6_heldOaths 44 = .ok (.iload_n 3, 1) := by decide +kernel
theorem dX6_heldOaths_45 : decode cX6_heldOaths 45 = .ok (.ishl, 1) := by decide +kernel
theorem dX6_heldOaths_46 : decode cX6_heldOaths 46 = .ok (.ior, 1) := by decide +kernel
theorem dX6_heldOaths_47 : decode cX6_heldOaths 47 = .ok (.istore_n 2, 1) := by decide +kernel
theorem dX6_heldOaths_48 : decode cX6_heldOaths 48 = .ok (.iinc 3 1, 3) := by decide +kernel
theorem dX6_heldOaths_51 : decode cX6_heldOaths 51 = .ok (.goto (-47), 3) := by decide +kernel
theorem dX6_heldOaths_54 : decode cX6_heldOaths 54 = .ok (.iload_n 2, 1) := by decide +kernel
theorem dX6_heldOaths_55 : decode cX6_heldOaths 55 = .ok (.ireturn, 1) := by decide +kernel
theorem dX6_outlasts_0 : decode cX6_outlasts 0 = .ok (.aload_n 0, 1) := by decide +kernel
theorem dX6_outlasts_1 : decode cX6_outlasts 1 = .ok (.iload_n 1, 1) := by decide +kernel
theorem dX6_outlasts_2 : decode cX6_outlasts 2 = .ok (.iload_n 2, 1) := by decide +kernel
theorem dX6_outlasts_3 : decode cX6_outlasts 3 = .ok (.invokevirtual 121, 3) := by decide +kernel
theorem dX6_outlasts_6 : decode cX6_outlasts 6 = .ok (.ifCond .ne 5, 3) := by decide +kernel
theorem dX6_outlasts_9 : decode cX6_outlasts 9 = .ok (.iconst 0, 1) := by decide +kernel
theorem dX6_outlasts_10 : decode cX6_outlasts 10 = .ok (.ireturn, 1) := by decide +kernel
theorem dX6_outlasts_11 : decode cX6_outlasts 11 = .ok (.iload_n 2, 1) := by decide +kernel
theorem dX6_outlasts_12 : decode cX6_outlasts 12 = .ok (.iconst 1, 1) := by decide +kernel
theorem dX6_outlasts_13 : decode cX6_outlasts 13 = .ok (.iload_n 1, 1) := by decide +kernel
theorem dX6_outlasts_14 : decode cX6_outlasts 14 = .ok (.ishl, 1) := by decide +kernel
theorem dX6_outlasts_15 : decode cX6_outlasts 15 = .ok (.iconst (-1), 1) := by decide +kernel
theorem dX6_outlasts_16 : decode cX6_outlasts 16 = .ok (.ixor, 1) := by decide +kernel
theorem dX6_outlasts_17 : decode cX6_outlasts 17 = .ok (.iand, 1) := by decide +kernel
theorem dX6_outlasts_18 : decode cX6_outlasts 18 = .ok (.iconst 1, 1) := by decide +kernel
theorem dX6_outlasts_19 : decode cX6_outlasts 19 = .ok (.aload_n 0, 1) := by decide +kernel
theorem dX6_outlasts_20 : decode cX6_outlasts 20 = .ok (.getfield 45, 3) := by decide +kernel
theorem dX6_outlasts_23 : decode cX6_outlasts 23 = .ok (.ishl, 1) := by decide +kernel
theorem dX6_outlasts_24 : decode cX6_outlasts 24 = .ok (.iconst (-1), 1) := by decide +kernel
theorem dX6_outlasts_25 : decode cX6_outlasts 25 = .ok (.ixor, 1) := by decide +kernel
theorem dX6_outlasts_26 : decode cX6_outlasts 26 = .ok (.iand, 1) := by decide +kernel
theorem dX6_outlasts_27 : decode cX6_outlasts 27 = .ok (.istore 4, 2) := by decide +kernel
theorem dX6_outlasts_29 : decode cX6_outlasts 29 = .ok (.iconst 0, 1) := by decide +kernel
theorem dX6_outlasts_30 : decode cX6_outlasts 30 = .ok (.istore 5, 2) := by decide +kernel
theorem dX6_outlasts_32 : decode cX6_outlasts 32 = .ok (.iload 5, 2) := by decide +kernel
theorem dX6_outlasts_34 : decode cX6_outlasts 34 = .ok (.bipush 16, 2) := by decide +kernel
theorem dX6_outlasts_36 : decode cX6_outlasts 36 = .ok (.if_icmp .ge 87, 3) := by decide +kernel
theorem dX6_outlasts_39 : decode cX6_outlasts 39 = .ok (.iload_n 3, 1) := by decide +kernel
theorem dX6_outlasts_40 : decode cX6_outlasts 40 = .ok (.iconst 1, 1) := by decide +kernel
theorem dX6_outlasts_41 : decode cX6_outlasts 41 = .ok (.if_icmp .le 8, 3) := by decide +kernel
theorem dX6_outlasts_44 : decode cX6_outlasts 44 = .ok (.bipush 15, 2) := by decide +kernel
theorem dX6_outlasts_46 : decode cX6_outlasts 46 = .ok (.goto 5, 3) := by decide +kernel
theorem dX6_outlasts_49 : decode cX6_outlasts 49 = .ok (.iload 5, 2) := by decide +kernel
theorem dX6_outlasts_51 : decode cX6_outlasts 51 = .ok (.istore 6, 2) := by decide +kernel
theorem dX6_outlasts_53 : decode cX6_outlasts 53 = .ok (.iload 5, 2) := by decide +kernel
theorem dX6_outlasts_55 : decode cX6_outlasts 55 = .ok (.istore 7, 2) := by decide +kernel
theorem dX6_outlasts_57 : decode cX6_outlasts 57 = .ok (.iload 4, 2) := by decide +kernel
theorem dX6_outlasts_59 : decode cX6_outlasts 59 = .ok (.iload 5, 2) := by decide +kernel
theorem dX6_outlasts_61 : decode cX6_outlasts 61 = .ok (.invokestatic 76, 3) := by decide +kernel
theorem dX6_outlasts_64 : decode cX6_outlasts 64 = .ok (.ifCond .eq 53, 3) := by decide +kernel
theorem dX6_outlasts_67 : decode cX6_outlasts 67 = .ok (.iload 7, 2) := by decide +kernel
theorem dX6_outlasts_69 : decode cX6_outlasts 69 = .ok (.iload 6, 2) := by decide +kernel
theorem dX6_outlasts_71 : decode cX6_outlasts 71 = .ok (.if_icmp .gt 46, 3) := by decide +kernel
theorem dX6_outlasts_74 : decode cX6_outlasts 74 = .ok (.iconst 1, 1) := by decide +kernel
theorem dX6_outlasts_75 : decode cX6_outlasts 75 = .ok (.iload 5, 2) := by decide +kernel
theorem dX6_outlasts_77 : decode cX6_outlasts 77 = .ok (.ishl, 1) := by decide +kernel
theorem dX6_outlasts_78 : decode cX6_outlasts 78 = .ok (.iconst 1, 1) := by decide +kernel
theorem dX6_outlasts_79 : decode cX6_outlasts 79 = .ok (.iload 7, 2) := by decide +kernel
theorem dX6_outlasts_81 : decode cX6_outlasts 81 = .ok (.ishl, 1) := by decide +kernel
theorem dX6_outlasts_82 : decode cX6_outlasts 82 = .ok (.ior, 1) := by decide +kernel
theorem dX6_outlasts_83 : decode cX6_outlasts 83 = .ok (.istore 8, 2) := by decide +kernel
theorem dX6_outlasts_85 : decode cX6_outlasts 85 = .ok (.iload 4, 2) := by decide +kernel
theorem dX6_outlasts_87 : decode cX6_outlasts 87 = .ok (.iload 7, 2) := by decide +kernel
theorem dX6_outlasts_89 : decode cX6_outlasts 89 = .ok (.invokestatic 76, 3) := by decide +kernel
theorem dX6_outlasts_92 : decode cX6_outlasts 92 = .ok (.ifCond .eq 19, 3) := by decide +kernel
theorem dX6_outlasts_95 : decode cX6_outlasts 95 = .ok (.aload_n 0, 1) := by decide +kernel
theorem dX6_outlasts_96 : decode cX6_outlasts 96 = .ok (.iload_n 1, 1) := by decide +kernel
theorem dX6_outlasts_97 : decode cX6_outlasts 97 = .ok (.iload_n 2, 1) := by decide +kernel
theorem dX6_outlasts_98 : decode cX6_outlasts 98 = .ok (.iload 8, 2) := by decide +kernel
theorem dX6_outlasts_100 : decode cX6_outlasts 100 = .ok (.iconst (-1), 1) := by decide +kernel
theorem dX6_outlasts_101 : decode cX6_outlasts 101 = .ok (.ixor, 1) := by decide +kernel
theorem dX6_outlasts_102 : decode cX6_outlasts 102 = .ok (.iand, 1) := by decide +kernel
theorem dX6_outlasts_103 : decode cX6_outlasts 103 = .ok (.invokevirtual 121, 3) := by decide +kernel
theorem dX6_outlasts_106 : decode cX6_outlasts 106 = .ok (.ifCond .ne 5, 3) := by decide +kernel
theorem dX6_outlasts_109 : decode cX6_outlasts 109 = .ok (.iconst 0, 1) := by decide +kernel
theorem dX6_outlasts_110 : decode cX6_outlasts 110 = .ok (.ireturn, 1) := by decide +kernel
theorem dX6_outlasts_111 : decode cX6_outlasts 111 = .ok (.iinc 7 1, 3) := by decide +kernel
theorem dX6_outlasts_114 : decode cX6_outlasts 114 = .ok (.goto (-57), 3) := by decide +kernel
theorem dX6_outlasts_117 : decode cX6_outlasts 117 = .ok (.iinc 5 1, 3) := by decide +kernel
theorem dX6_outlasts_120 : decode cX6_outlasts 120 = .ok (.goto (-88), 3) := by decide +kernel
theorem dX6_outlasts_123 : decode cX6_outlasts 123 = .ok (.iconst 1, 1) := by decide +kernel
theorem dX6_outlasts_124 : decode cX6_outlasts 124 = .ok (.ireturn, 1) := by decide +kernel
theorem dX6_orderUpward_0 : decode cX6_orderUpward 0 = .ok (.aload_n 0, 1) := by decide +kernel
theorem dX6_orderUpward_1 : decode cX6_orderUpward 1 = .ok (.iconst 0, 1) := by decide +kernel
theorem dX6_orderUpward_2 : decode cX6_orderUpward 2 = .ok (.putfield 59, 3) := by decide +kernel
theorem dX6_orderUpward_5 : decode cX6_orderUpward 5 = .ok (.iconst 0, 1) := by decide +kernel
theorem dX6_orderUpward_6 : decode cX6_orderUpward 6 = .ok (.istore_n 1, 1) := by decide +kernel
theorem dX6_orderUpward_7 : decode cX6_orderUpward 7 = .ok (.iload_n 1, 1) := by decide +kernel
theorem dX6_orderUpward_8 : decode cX6_orderUpward 8 = .ok (.aload_n 0, 1) := by decide +kernel
theorem dX6_orderUpward_9 : decode cX6_orderUpward 9 = .ok (.getfield 31, 3) := by decide +kernel
theorem dX6_orderUpward_12 : decode cX6_orderUpward 12 = .ok (.getfield 66, 3) := by decide +kernel
theorem dX6_orderUpward_15 : decode cX6_orderUpward 15 = .ok (.if_icmp .ge 111, 3) := by decide +kernel
theorem dX6_orderUpward_18 : decode cX6_orderUpward 18 = .ok (.aload_n 0, 1) := by decide +kernel
theorem dX6_orderUpward_19 : decode cX6_orderUpward 19 = .ok (.getfield 9, 3) := by decide +kernel
theorem dX6_orderUpward_22 : decode cX6_orderUpward 22 = .ok (.iload_n 1, 1) := by decide +kernel
theorem dX6_orderUpward_23 : decode cX6_orderUpward 23 = .ok (.aload_n 0, 1) := by decide +kernel
theorem dX6_orderUpward_24 : decode cX6_orderUpward 24 = .ok (.getfield 31, 3) := by decide +kernel
theorem dX6_orderUpward_27 : decode cX6_orderUpward 27 = .ok (.iload_n 1, 1) := by decide +kernel
theorem dX6_orderUpward_28 : decode cX6_orderUpward 28 = .ok (.invokevirtual 124, 3) := by decide +kernel
theorem dX6_orderUpward_31 : decode cX6_orderUpward 31 = .ok (.iastore, 1) := by decide +kernel
theorem dX6_orderUpward_32 : decode cX6_orderUpward 32 = .ok (.aload_n 0, 1) := by decide +kernel
theorem dX6_orderUpward_33 : decode cX6_orderUpward 33 = .ok (.getfield 31, 3) := by decide +kernel
theorem dX6_orderUpward_36 : decode cX6_orderUpward 36 = .ok (.iload_n 1, 1) := by decide +kernel
theorem dX6_orderUpward_37 : decode cX6_orderUpward 37 = .ok (.invokevirtual 128, 3) := by decide +kernel
theorem dX6_orderUpward_40 : decode cX6_orderUpward 40 = .ok (.ifCond .eq 80, 3) := by decide +kernel
theorem dX6_orderUpward_43 : decode cX6_orderUpward 43 = .ok (.aload_n 0, 1) := by decide +kernel
theorem dX6_orderUpward_44 : decode cX6_orderUpward 44 = .ok (.getfield 59, 3) := by decide +kernel
theorem dX6_orderUpward_47 : decode cX6_orderUpward 47 = .ok (.istore_n 2, 1) := by decide +kernel
theorem dX6_orderUpward_48 : decode cX6_orderUpward 48 = .ok (.aload_n 0, 1) := by decide +kernel
theorem dX6_orderUpward_49 : decode cX6_orderUpward 49 = .ok (.getfield 59, 3) := by decide +kernel
theorem dX6_orderUpward_52 : decode cX6_orderUpward 52 = .ok (.istore_n 3, 1) := by decide +kernel
theorem dX6_orderUpward_53 : decode cX6_orderUpward 53 = .ok (.iload_n 3, 1) := by decide +kernel
theorem dX6_orderUpward_54 : decode cX6_orderUpward 54 = .ok (.ifCond .le 49, 3) := by decide +kernel
theorem dX6_orderUpward_57 : decode cX6_orderUpward 57 = .ok (.aload_n 0, 1) := by decide +kernel
theorem dX6_orderUpward_58 : decode cX6_orderUpward 58 = .ok (.getfield 9, 3) := by decide +kernel
theorem dX6_orderUpward_61 : decode cX6_orderUpward 61 = .ok (.aload_n 0, 1) := by decide +kernel
theorem dX6_orderUpward_62 : decode cX6_orderUpward 62 = .ok (.getfield 15, 3) := by decide +kernel
theorem dX6_orderUpward_65 : decode cX6_orderUpward 65 = .ok (.iload_n 3, 1) := by decide +kernel
theorem dX6_orderUpward_66 : decode cX6_orderUpward 66 = .ok (.iconst 1, 1) := by decide +kernel
theorem dX6_orderUpward_67 : decode cX6_orderUpward 67 = .ok (.isub, 1) := by decide +kernel
theorem dX6_orderUpward_68 : decode cX6_orderUpward 68 = .ok (.iaload, 1) := by decide +kernel
theorem dX6_orderUpward_69 : decode cX6_orderUpward 69 = .ok (.iaload, 1) := by decide +kernel
theorem dX6_orderUpward_70 : decode cX6_orderUpward 70 = .ok (.aload_n 0, 1) := by decide +kernel
theorem dX6_orderUpward_71 : decode cX6_orderUpward 71 = .ok (.getfield 9, 3) := by decide +kernel
theorem dX6_orderUpward_74 : decode cX6_orderUpward 74 = .ok (.iload_n 1, 1) := by decide +kernel
theorem dX6_orderUpward_75 : decode cX6_orderUpward 75 = .ok (.iaload, 1) := by decide +kernel
theorem dX6_orderUpward_76 : decode cX6_orderUpward 76 = .ok (.if_icmp .le 27, 3) := by decide +kernel
theorem dX6_orderUpward_79 : decode cX6_orderUpward 79 = .ok (.aload_n 0, 1) := by decide +kernel
theorem dX6_orderUpward_80 : decode cX6_orderUpward 80 = .ok (.getfield 15, 3) := by decide +kernel
theorem dX6_orderUpward_83 : decode cX6_orderUpward 83 = .ok (.iload_n 3, 1) := by decide +kernel
theorem dX6_orderUpward_84 : decode cX6_orderUpward 84 = .ok (.aload_n 0, 1) := by decide +kernel
theorem dX6_orderUpward_85 : decode cX6_orderUpward 85 = .ok (.getfield 15, 3) := by decide +kernel
theorem dX6_orderUpward_88 : decode cX6_orderUpward 88 = .ok (.iload_n 3, 1) := by decide +kernel
theorem dX6_orderUpward_89 : decode cX6_orderUpward 89 = .ok (.iconst 1, 1) := by decide +kernel
theorem dX6_orderUpward_90 : decode cX6_orderUpward 90 = .ok (.isub, 1) := by decide +kernel
theorem dX6_orderUpward_91 : decode cX6_orderUpward 91 = .ok (.iaload, 1) := by decide +kernel
theorem dX6_orderUpward_92 : decode cX6_orderUpward 92 = .ok (.iastore, 1) := by decide +kernel
theorem dX6_orderUpward_93 : decode cX6_orderUpward 93 = .ok (.iload_n 3, 1) := by decide +kernel
theorem dX6_orderUpward_94 : decode cX6_orderUpward 94 = .ok (.iconst 1, 1) := by decide +kernel
theorem dX6_orderUpward_95 : decode cX6_orderUpward 95 = .ok (.isub, 1) := by decide +kernel
theorem dX6_orderUpward_96 : decode cX6_orderUpward 96 = .ok (.istore_n 2, 1) := by decide +kernel
theorem dX6_orderUpward_97 : decode cX6_orderUpward 97 = .ok (.iinc 3 (-1), 3) := by decide +kernel
theorem dX6_orderUpward_100 : decode cX6_orderUpward 100 = .ok (.goto (-47), 3) := by decide +kernel
theorem dX6_orderUpward_103 : decode cX6_orderUpward 103 = .ok (.aload_n 0, 1) := by decide +kernel
theorem dX6_orderUpward_104 : decode cX6_orderUpward 104 = .ok (.getfield 15, 3) := by decide +kernel
theorem dX6_orderUpward_107 : decode cX6_orderUpward 107 = .ok (.iload_n 2, 1) := by decide +kernel
theorem dX6_orderUpward_108 : decode cX6_orderUpward 108 = .ok (.iload_n 1, 1) := by decide +kernel
theorem dX6_orderUpward_109 : decode cX6_orderUpward 109 = .ok (.iastore, 1) := by decide +kernel
theorem dX6_orderUpward_110 : decode cX6_orderUpward 110 = .ok (.aload_n 0, 1) := by decide +kernel
theorem dX6_orderUpward_111 : decode cX6_orderUpward 111 = .ok (.dup, 1) := by decide +kernel
theorem dX6_orderUpward_112 : decode cX6_orderUpward 112 = .ok (.getfield 59, 3) := by decide +kernel
theorem dX6_orderUpward_115 : decode cX6_orderUpward 115 = .ok (.iconst 1, 1) := by decide +kernel
theorem dX6_orderUpward_116 : decode cX6_orderUpward 116 = .ok (.iadd, 1) := by decide +kernel
theorem dX6_orderUpward_117 : decode cX6_orderUpward 117 = .ok (.putfield 59, 3) := by decide +kernel
theorem dX6_orderUpward_120 : decode cX6_orderUpward 120 = .ok (.iinc 1 1, 3) := by decide +kernel
theorem dX6_orderUpward_123 : decode cX6_orderUpward 123 = .ok (.goto (-116), 3) := by decide +kernel
theorem dX6_orderUpward_126 : decode cX6_orderUpward 126 = .ok (.return_, 1) := by decide +kernel
theorem dX6_isLet_0 : decode cX6_isLet 0 = .ok (.aload_n 0, 1) := by decide +kernel
theorem dX6_isLet_1 : decode cX6_isLet 1 = .ok (.getfield 9, 3) := by decide +kernel
theorem dX6_isLet_4 : decode cX6_isLet 4 = .ok (.iload_n 2, 1) := by decide +kernel
theorem dX6_isLet_5 : decode cX6_isLet 5 = .ok (.iaload, 1) := by decide +kernel
theorem dX6_isLet_6 : decode cX6_isLet 6 = .ok (.aload_n 0, 1) := by decide +kernel
theorem dX6_isLet_7 : decode cX6_isLet 7 = .ok (.getfield 9, 3) := by decide +kernel
theorem dX6_isLet_10 : decode cX6_isLet 10 = .ok (.iload_n 1, 1) := by decide +kernel
theorem dX6_isLet_11 : decode cX6_isLet 11 = .ok (.iaload, 1) := by decide +kernel
theorem dX6_isLet_12 : decode cX6_isLet 12 = .ok (.if_icmp .le 16, 3) := by decide +kernel
theorem dX6_isLet_15 : decode cX6_isLet 15 = .ok (.aload_n 0, 1) := by decide +kernel
theorem dX6_isLet_16 : decode cX6_isLet 16 = .ok (.getfield 31, 3) := by decide +kernel
theorem dX6_isLet_19 : decode cX6_isLet 19 = .ok (.getfield 86, 3) := by decide +kernel
theorem dX6_isLet_22 : decode cX6_isLet 22 = .ok (.iload_n 2, 1) := by decide +kernel
theorem dX6_isLet_23 : decode cX6_isLet 23 = .ok (.iaload, 1) := by decide +kernel
theorem dX6_isLet_24 : decode cX6_isLet 24 = .ok (.iconst 3, 1) := by decide +kernel
theorem dX6_isLet_25 : decode cX6_isLet 25 = .ok (.if_icmp .ne 5, 3) := by decide +kernel
theorem dX6_isLet_28 : decode cX6_isLet 28 = .ok (.iconst 0, 1) := by decide +kernel
theorem dX6_isLet_29 : decode cX6_isLet 29 = .ok (.ireturn, 1) := by decide +kernel
theorem dX6_isLet_30 : decode cX6_isLet 30 = .ok (.aload_n 0, 1) := by decide +kernel
theorem dX6_isLet_31 : decode cX6_isLet 31 = .ok (.getfield 27, 3) := by decide +kernel
theorem dX6_isLet_34 : decode cX6_isLet 34 = .ok (.aload_n 0, 1) := by decide +kernel
theorem dX6_isLet_35 : decode cX6_isLet 35 = .ok (.getfield 31, 3) := by decide +kernel
theorem dX6_isLet_38 : decode cX6_isLet 38 = .ok (.iload_n 2, 1) := by decide +kernel
theorem dX6_isLet_39 : decode cX6_isLet 39 = .ok (.invokevirtual 79, 3) := by decide +kernel
theorem dX6_isLet_42 : decode cX6_isLet 42 = .ok (.aload_n 0, 1) := by decide +kernel
theorem dX6_isLet_43 : decode cX6_isLet 43 = .ok (.getfield 27, 3) := by decide +kernel
theorem dX6_isLet_46 : decode cX6_isLet 46 = .ok (.aload_n 0, 1) := by decide +kernel
theorem dX6_isLet_47 : decode cX6_isLet 47 = .ok (.getfield 31, 3) := by decide +kernel
theorem dX6_isLet_50 : decode cX6_isLet 50 = .ok (.iload_n 1, 1) := by decide +kernel
theorem dX6_isLet_51 : decode cX6_isLet 51 = .ok (.invokevirtual 83, 3) := by decide +kernel
theorem dX6_isLet_54 : decode cX6_isLet 54 = .ok (.aload_n 0, 1) := by decide +kernel
theorem dX6_isLet_55 : decode cX6_isLet 55 = .ok (.getfield 35, 3) := by decide +kernel
theorem dX6_isLet_58 : decode cX6_isLet 58 = .ok (.bipush 110, 2) := by decide +kernel
theorem dX6_isLet_60 : decode cX6_isLet 60 = .ok (.aload_n 0, 1) := by decide +kernel
theorem dX6_isLet_61 : decode cX6_isLet 61 = .ok (.getfield 27, 3) := by decide +kernel
theorem dX6_isLet_64 : decode cX6_isLet 64 = .ok (.getfield 92, 3) := by decide +kernel
theorem dX6_isLet_67 : decode cX6_isLet 67 = .ok (.invokevirtual 132, 3) := by decide +kernel
theorem dX6_isLet_70 : decode cX6_isLet 70 = .ok (.ifCond .ne 7, 3) := by decide +kernel
theorem dX6_isLet_73 : decode cX6_isLet 73 = .ok (.iconst 1, 1) := by decide +kernel
theorem dX6_isLet_74 : decode cX6_isLet 74 = .ok (.goto 4, 3) := by decide +kernel
theorem dX6_isLet_77 : decode cX6_isLet 77 = .ok (.iconst 0, 1) := by decide +kernel
theorem dX6_isLet_78 : decode cX6_isLet 78 = .ok (.ireturn, 1) := by decide +kernel
theorem dX7_init_0 : decode cX7_init 0 = .ok (.aload_n 0, 1) := by decide +kernel
theorem dX7_init_1 : decode cX7_init 1 = .ok (.invokespecial 3, 3) := by decide +kernel
theorem dX7_init_4 : decode cX7_init 4 = .ok (.aload_n 0, 1) := by decide +kernel
theorem dX7_init_5 : decode cX7_init 5 = .ok (.sipush 200, 3) := by decide +kernel
theorem dX7_init_8 : decode cX7_init 8 = .ok (.newarray .int, 2) := by decide +kernel
theorem dX7_init_10 : decode cX7_init 10 = .ok (.putfield 9, 3) := by decide +kernel
theorem dX7_init_13 : decode cX7_init 13 = .ok (.return_, 1) := by decide +kernel
theorem dX7_addWord_0 : decode cX7_addWord 0 = .ok (.bipush 24, 2) := by decide +kernel
theorem dX7_addWord_2 : decode cX7_addWord 2 = .ok (.istore_n 2, 1) := by decide +kernel
theorem dX7_addWord_3 : decode cX7_addWord 3 = .ok (.iload_n 2, 1) := by decide +kernel
theorem dX7_addWord_4 : decode cX7_addWord 4 = .ok (.ifCond .lt 45, 3) := by decide +kernel
theorem dX7_addWord_7 : decode cX7_addWord 7 = .ok (.aload_n 0, 1) := by decide +kernel
theorem dX7_addWord_8 : decode cX7_addWord 8 = .ok (.getfield 15, 3) := by decide +kernel
theorem dX7_addWord_11 : decode cX7_addWord 11 = .ok (.sipush 200, 3) := by decide +kernel
theorem dX7_addWord_14 : decode cX7_addWord 14 = .ok (.if_icmp .ge 35, 3) := by decide +kernel
theorem dX7_addWord_17 : decode cX7_addWord 17 = .ok (.aload_n 0, 1) := by decide +kernel
theorem dX7_addWord_18 : decode cX7_addWord 18 = .ok (.getfield 9, 3) := by decide +kernel
theorem dX7_addWord_21 : decode cX7_addWord 21 = .ok (.aload_n 0, 1) := by decide +kernel
theorem dX7_addWord_22 : decode cX7_addWord 22 = .ok (.getfield 15, 3) := by decide +kernel
theorem dX7_addWord_25 : decode cX7_addWord 25 = .ok (.iload_n 1, 1) := by decide +kernel
theorem dX7_addWord_26 : decode cX7_addWord 26 = .ok (.iload_n 2, 1) := by decide +kernel
theorem dX7_addWord_27 : decode cX7_addWord 27 = .ok (.ishr, 1) := by decide +kernel
theorem dX7_addWord_28 : decode cX7_addWord 28 = .ok (.sipush 255, 3) := by decide +kernel
theorem dX7_addWord_31 : decode cX7_addWord 31 = .ok (.iand, 1) := by decide +kernel
theorem dX7_addWord_32 : decode cX7_addWord 32 = .ok (.iastore, 1) := by decide +kernel
theorem dX7_addWord_33 : decode cX7_addWord 33 = .ok (.aload_n 0, 1) := by decide +kernel
theorem dX7_addWord_34 : decode cX7_addWord 34 = .ok (.dup, 1) := by decide +kernel
theorem dX7_addWord_35 : decode cX7_addWord 35 = .ok (.getfield 15, 3) := by decide +kernel
theorem dX7_addWord_38 : decode cX7_addWord 38 = .ok (.iconst 1, 1) := by decide +kernel
theorem dX7_addWord_39 : decode cX7_addWord 39 = .ok (.iadd, 1) := by decide +kernel
theorem dX7_addWord_40 : decode cX7_addWord 40 = .ok (.putfield 15, 3) := by decide +kernel
theorem dX7_addWord_43 : decode cX7_addWord 43 = .ok (.iinc 2 (-8), 3) := by decide +kernel
theorem dX7_addWord_46 : decode cX7_addWord 46 = .ok (.goto (-43), 3) := by decide +kernel
theorem dX7_addWord_49 : decode cX7_addWord 49 = .ok (.return_, 1) := by decide +kernel
theorem dX7_wordAt_0 : decode cX7_wordAt 0 = .ok (.iconst 0, 1) := by decide +kernel
theorem dX7_wordAt_1 : decode cX7_wordAt 1 = .ok (.istore_n 2, 1) := by decide +kernel
theorem dX7_wordAt_2 : decode cX7_wordAt 2 = .ok (.iload_n 1, 1) := by decide +kernel
theorem dX7_wordAt_3 : decode cX7_wordAt 3 = .ok (.iconst 4, 1) := by decide +kernel
theorem dX7_wordAt_4 : decode cX7_wordAt 4 = .ok (.imul, 1) := by decide +kernel
theorem dX7_wordAt_5 : decode cX7_wordAt 5 = .ok (.istore_n 3, 1) := by decide +kernel
theorem dX7_wordAt_6 : decode cX7_wordAt 6 = .ok (.iload_n 3, 1) := by decide +kernel
theorem dX7_wordAt_7 : decode cX7_wordAt 7 = .ok (.istore 4, 2) := by decide +kernel
theorem dX7_wordAt_9 : decode cX7_wordAt 9 = .ok (.iload 4, 2) := by decide +kernel
theorem dX7_wordAt_11 : decode cX7_wordAt 11 = .ok (.ifCond .lt 38, 3) := by decide +kernel
theorem dX7_wordAt_14 : decode cX7_wordAt 14 = .ok (.iload 4, 2) := by decide +kernel
theorem dX7_wordAt_16 : decode cX7_wordAt 16 = .ok (.iload_n 3, 1) := by decide +kernel
theorem dX7_wordAt_17 : decode cX7_wordAt 17 = .ok (.iconst 4, 1) := by decide +kernel
theorem dX7_wordAt_18 : decode cX7_wordAt 18 = .ok (.iadd, 1) := by decide +kernel
theorem dX7_wordAt_19 : decode cX7_wordAt 19 = .ok (.if_icmp .ge 30, 3) := by decide +kernel
theorem dX7_wordAt_22 : decode cX7_wordAt 22 = .ok (.iload 4, 2) := by decide +kernel
theorem dX7_wordAt_24 : decode cX7_wordAt 24 = .ok (.sipush 200, 3) := by decide +kernel
theorem dX7_wordAt_27 : decode cX7_wordAt 27 = .ok (.if_icmp .ge 22, 3) := by decide +kernel
theorem dX7_wordAt_30 : decode cX7_wordAt 30 = .ok (.iload_n 2, 1) := by decide +kernel
theorem dX7_wordAt_31 : decode cX7_wordAt 31 = .ok (.bipush 8, 2) := by decide +kernel
theorem dX7_wordAt_33 : decode cX7_wordAt 33 = .ok (.ishl, 1) := by decide +kernel
theorem dX7_wordAt_34 : decode cX7_wordAt 34 = .ok (.aload_n 0, 1) := by decide +kernel
theorem dX7_wordAt_35 : decode cX7_wordAt 35 = .ok (.getfield 9, 3) := by decide +kernel
theorem dX7_wordAt_38 : decode cX7_wordAt 38 = .ok (.iload 4, 2) := by decide +kernel
theorem dX7_wordAt_40 : decode cX7_wordAt 40 = .ok (.iaload, 1) := by decide +kernel
theorem dX7_wordAt_41 : decode cX7_wordAt 41 = .ok (.ior, 1) := by decide +kernel
theorem dX7_wordAt_42 : decode cX7_wordAt 42 = .ok (.istore_n 2, 1) := by decide +kernel
theorem dX7_wordAt_43 : decode cX7_wordAt 43 = .ok (.iinc 4 1, 3) := by decide +kernel
theorem dX7_wordAt_46 : decode cX7_wordAt 46 = .ok (.goto (-37), 3) := by decide +kernel
theorem dX7_wordAt_49 : decode cX7_wordAt 49 = .ok (.iload_n 2, 1) := by decide +kernel
theorem dX7_wordAt_50 : decode cX7_wordAt 50 = .ok (.ireturn, 1) := by decide +kernel
theorem dX8_init_0 : decode cX8_init 0 = .ok (.aload_n 0, 1) := by decide +kernel
theorem dX8_init_1 : decode cX8_init 1 = .ok (.invokespecial 3, 3) := by decide +kernel
theorem dX8_init_4 : decode cX8_init 4 = .ok (.aload_n 0, 1) := by decide +kernel
theorem dX8_init_5 : decode cX8_init 5 = .ok (.bipush 16, 2) := by decide +kernel
theorem dX8_init_7 : decode cX8_init 7 = .ok (.newarray .int, 2) := by decide +kernel
theorem dX8_init_9 : decode cX8_init 9 = .ok (.putfield 9, 3) := by decide +kernel
theorem dX8_init_12 : decode cX8_init 12 = .ok (.aload_n 0, 1) := by decide +kernel
theorem dX8_init_13 : decode cX8_init 13 = .ok (.bipush 16, 2) := by decide +kernel
theorem dX8_init_15 : decode cX8_init 15 = .ok (.newarray .int, 2) := by decide +kernel
theorem dX8_init_17 : decode cX8_init 17 = .ok (.putfield 15, 3) := by decide +kernel
theorem dX8_init_20 : decode cX8_init 20 = .ok (.aload_n 0, 1) := by decide +kernel
theorem dX8_init_21 : decode cX8_init 21 = .ok (.bipush 16, 2) := by decide +kernel
theorem dX8_init_23 : decode cX8_init 23 = .ok (.newarray .int, 2) := by decide +kernel
theorem dX8_init_25 : decode cX8_init 25 = .ok (.putfield 18, 3) := by decide +kernel
theorem dX8_init_28 : decode cX8_init 28 = .ok (.aload_n 0, 1) := by decide +kernel
theorem dX8_init_29 : decode cX8_init 29 = .ok (.bipush 16, 2) := by decide +kernel
theorem dX8_init_31 : decode cX8_init 31 = .ok (.newarray .int, 2) := by decide +kernel
theorem dX8_init_33 : decode cX8_init 33 = .ok (.putfield 21, 3) := by decide +kernel
theorem dX8_init_36 : decode cX8_init 36 = .ok (.aload_n 0, 1) := by decide +kernel
theorem dX8_init_37 : decode cX8_init 37 = .ok (.bipush 16, 2) := by decide +kernel
theorem dX8_init_39 : decode cX8_init 39 = .ok (.newarray .int, 2) := by decide +kernel
theorem dX8_init_41 : decode cX8_init 41 = .ok (.putfield 24, 3) := by decide +kernel
theorem dX8_init_44 : decode cX8_init 44 = .ok (.aload_n 0, 1) := by decide +kernel
theorem dX8_init_45 : decode cX8_init 45 = .ok (.bipush 12, 2) := by decide +kernel
theorem dX8_init_47 : decode cX8_init 47 = .ok (.newarray .int, 2) := by decide +kernel
theorem dX8_init_49 : decode cX8_init 49 = .ok (.putfield 27, 3) := by decide +kernel
theorem dX8_init_52 : decode cX8_init 52 = .ok (.aload_n 0, 1) := by decide +kernel
theorem dX8_init_53 : decode cX8_init 53 = .ok (.bipush 12, 2) := by decide +kernel
theorem dX8_init_55 : decode cX8_init 55 = .ok (.newarray .int, 2) := by decide +kernel
theorem dX8_init_57 : decode cX8_init 57 = .ok (.putfield 30, 3) := by decide +kernel
theorem dX8_init_60 : decode cX8_init 60 = .ok (.aload_n 0, 1) := by decide +kernel
theorem dX8_init_61 : decode cX8_init 61 = .ok (.iconst 1, 1) := by decide +kernel
theorem dX8_init_62 : decode cX8_init 62 = .ok (.putfield 33, 3) := by decide +kernel
theorem dX8_init_65 : decode cX8_init 65 = .ok (.aload_n 0, 1) := by decide +kernel
theorem dX8_init_66 : decode cX8_init 66 = .ok (.bipush 16, 2) := by decide +kernel
theorem dX8_init_68 : decode cX8_init 68 = .ok (.newarray .int, 2) := by decide +kernel
theorem dX8_init_70 : decode cX8_init 70 = .ok (.putfield 37, 3) := by decide +kernel
theorem dX8_init_73 : decode cX8_init 73 = .ok (.aload_n 0, 1) := by decide +kernel
theorem dX8_init_74 : decode cX8_init 74 = .ok (.new 40, 3) := by decide +kernel
theorem dX8_init_77 : decode cX8_init 77 = .ok (.dup, 1) := by decide +kernel
theorem dX8_init_78 : decode cX8_init 78 = .ok (.invokespecial 42, 3) := by decide +kernel
theorem dX8_init_81 : decode cX8_init 81 = .ok (.putfield 43, 3) := by decide +kernel
theorem dX8_init_84 : decode cX8_init 84 = .ok (.return_, 1) := by decide +kernel
theorem dX8_copyFrom_0 : decode cX8_copyFrom 0 = .ok (.aload_n 1, 1) := by decide +kernel
theorem dX8_copyFrom_1 : decode cX8_copyFrom 1 = .ok (.getfield 9, 3) := by decide +kernel
theorem dX8_copyFrom_4 : decode cX8_copyFrom 4 = .ok (.iconst 0, 1) := by decide +kernel
theorem dX8_copyFrom_5 : decode cX8_copyFrom 5 = .ok (.aload_n 0, 1) := by decide +kernel
theorem dX8_copyFrom_6 : decode cX8_copyFrom 6 = .ok (.getfield 9, 3) := by decide +kernel
theorem dX8_copyFrom_9 : decode cX8_copyFrom 9 = .ok (.iconst 0, 1) := by decide +kernel
theorem dX8_copyFrom_10 : decode cX8_copyFrom 10 = .ok (.bipush 16, 2) := by decide +kernel
theorem dX8_copyFrom_12 : decode cX8_copyFrom 12 = .ok (.invokestatic 47, 3) := by decide +kernel
theorem dX8_copyFrom_15 : decode cX8_copyFrom 15 = .ok (.aload_n 1, 1) := by decide +kernel
theorem dX8_copyFrom_16 : decode cX8_copyFrom 16 = .ok (.getfield 15, 3) := by decide +kernel
theorem dX8_copyFrom_19 : decode cX8_copyFrom 19 = .ok (.iconst 0, 1) := by decide +kernel
theorem dX8_copyFrom_20 : decode cX8_copyFrom 20 = .ok (.aload_n 0, 1) := by decide +kernel
theorem dX8_copyFrom_21 : decode cX8_copyFrom 21 = .ok (.getfield 15, 3) := by decide +kernel
theorem dX8_copyFrom_24 : decode cX8_copyFrom 24 = .ok (.iconst 0, 1) := by decide +kernel
theorem dX8_copyFrom_25 : decode cX8_copyFrom 25 = .ok (.bipush 16, 2) := by decide +kernel
theorem dX8_copyFrom_27 : decode cX8_copyFrom 27 = .ok (.invokestatic 47, 3) := by decide +kernel
theorem dX8_copyFrom_30 : decode cX8_copyFrom 30 = .ok (.aload_n 1, 1) := by decide +kernel
theorem dX8_copyFrom_31 : decode cX8_copyFrom 31 = .ok (.getfield 18, 3) := by decide +kernel
theorem dX8_copyFrom_34 : decode cX8_copyFrom 34 = .ok (.iconst 0, 1) := by decide +kernel
theorem dX8_copyFrom_35 : decode cX8_copyFrom 35 = .ok (.aload_n 0, 1) := by decide +kernel
theorem dX8_copyFrom_36 : decode cX8_copyFrom 36 = .ok (.getfield 18, 3) := by decide +kernel
theorem dX8_copyFrom_39 : decode cX8_copyFrom 39 = .ok (.iconst 0, 1) := by decide +kernel
theorem dX8_copyFrom_40 : decode cX8_copyFrom 40 = .ok (.bipush 16, 2) := by decide +kernel
theorem dX8_copyFrom_42 : decode cX8_copyFrom 42 = .ok (.invokestatic 47, 3) := by decide +kernel
theorem dX8_copyFrom_45 : decode cX8_copyFrom 45 = .ok (.aload_n 1, 1) := by decide +kernel
theorem dX8_copyFrom_46 : decode cX8_copyFrom 46 = .ok (.getfield 21, 3) := by decide +kernel
theorem dX8_copyFrom_49 : decode cX8_copyFrom 49 = .ok (.iconst 0, 1) := by decide +kernel
theorem dX8_copyFrom_50 : decode cX8_copyFrom 50 = .ok (.aload_n 0, 1) := by decide +kernel
theorem dX8_copyFrom_51 : decode cX8_copyFrom 51 = .ok (.getfield 21, 3) := by decide +kernel
theorem dX8_copyFrom_54 : decode cX8_copyFrom 54 = .ok (.iconst 0, 1) := by decide +kernel
theorem dX8_copyFrom_55 : decode cX8_copyFrom 55 = .ok (.bipush 16, 2) := by decide +kernel
theorem dX8_copyFrom_57 : decode cX8_copyFrom 57 = .ok (.invokestatic 47, 3) := by decide +kernel
theorem dX8_copyFrom_60 : decode cX8_copyFrom 60 = .ok (.aload_n 1, 1) := by decide +kernel
theorem dX8_copyFrom_61 : decode cX8_copyFrom 61 = .ok (.getfield 24, 3) := by decide +kernel
theorem dX8_copyFrom_64 : decode cX8_copyFrom 64 = .ok (.iconst 0, 1) := by decide +kernel
theorem dX8_copyFrom_65 : decode cX8_copyFrom 65 = .ok (.aload_n 0, 1) := by decide +kernel
theorem dX8_copyFrom_66 : decode cX8_copyFrom 66 = .ok (.getfield 24, 3) := by decide +kernel
theorem dX8_copyFrom_69 : decode cX8_copyFrom 69 = .ok (.iconst 0, 1) := by decide +kernel
theorem dX8_copyFrom_70 : decode cX8_copyFrom 70 = .ok (.bipush 16, 2) := by decide +kernel
theorem dX8_copyFrom_72 : decode cX8_copyFrom 72 = .ok (.invokestatic 47, 3) := by decide +kernel
theorem dX8_copyFrom_75 : decode cX8_copyFrom 75 = .ok (.aload_n 1, 1) := by decide +kernel
theorem dX8_copyFrom_76 : decode cX8_copyFrom 76 = .ok (.getfield 27, 3) := by decide +kernel
theorem dX8_copyFrom_79 : decode cX8_copyFrom 79 = .ok (.iconst 0, 1) := by decide +kernel
theorem dX8_copyFrom_80 : decode cX8_copyFrom 80 = .ok (.aload_n 0, 1) := by decide +kernel
theorem dX8_copyFrom_81 : decode cX8_copyFrom 81 = .ok (.getfield 27, 3) := by decide +kernel
theorem dX8_copyFrom_84 : decode cX8_copyFrom 84 = .ok (.iconst 0, 1) := by decide +kernel
theorem dX8_copyFrom_85 : decode cX8_copyFrom 85 = .ok (.bipush 12, 2) := by decide +kernel
theorem dX8_copyFrom_87 : decode cX8_copyFrom 87 = .ok (.invokestatic 47, 3) := by decide +kernel
theorem dX8_copyFrom_90 : decode cX8_copyFrom 90 = .ok (.aload_n 1, 1) := by decide +kernel
theorem dX8_copyFrom_91 : decode cX8_copyFrom 91 = .ok (.getfield 30, 3) := by decide +kernel
theorem dX8_copyFrom_94 : decode cX8_copyFrom 94 = .ok (.iconst 0, 1) := by decide +kernel
theorem dX8_copyFrom_95 : decode cX8_copyFrom 95 = .ok (.aload_n 0, 1) := by decide +kernel
theorem dX8_copyFrom_96 : decode cX8_copyFrom 96 = .ok (.getfield 30, 3) := by decide +kernel
theorem dX8_copyFrom_99 : decode cX8_copyFrom 99 = .ok (.iconst 0, 1) := by decide +kernel
theorem dX8_copyFrom_100 : decode cX8_copyFrom 100 = .ok (.bipush 12, 2) := by decide +kernel
theorem dX8_copyFrom_102 : decode cX8_copyFrom 102 = .ok (.invokestatic 47, 3) := by decide +kernel
theorem dX8_copyFrom_105 : decode cX8_copyFrom 105 = .ok (.aload_n 0, 1) := by decide +kernel
theorem dX8_copyFrom_106 : decode cX8_copyFrom 106 = .ok (.aload_n 1, 1) := by decide +kernel
theorem dX8_copyFrom_107 : decode cX8_copyFrom 107 = .ok (.getfield 53, 3) := by decide +kernel
theorem dX8_copyFrom_110 : decode cX8_copyFrom 110 = .ok (.putfield 53, 3) := by decide +kernel
theorem dX8_copyFrom_113 : decode cX8_copyFrom 113 = .ok (.aload_n 0, 1) := by decide +kernel
theorem dX8_copyFrom_114 : decode cX8_copyFrom 114 = .ok (.aload_n 1, 1) := by decide +kernel
theorem dX8_copyFrom_115 : decode cX8_copyFrom 115 = .ok (.getfield 56, 3) := by decide +kernel
theorem dX8_copyFrom_118 : decode cX8_copyFrom 118 = .ok (.putfield 56, 3) := by decide +kernel
theorem dX8_copyFrom_121 : decode cX8_copyFrom 121 = .ok (.aload_n 0, 1) := by decide +kernel
theorem dX8_copyFrom_122 : decode cX8_copyFrom 122 = .ok (.aload_n 1, 1) := by decide +kernel
theorem dX8_copyFrom_123 : decode cX8_copyFrom 123 = .ok (.getfield 59, 3) := by decide +kernel
theorem dX8_copyFrom_126 : decode cX8_copyFrom 126 = .ok (.putfield 59, 3) := by decide +kernel
theorem dX8_copyFrom_129 : decode cX8_copyFrom 129 = .ok (.aload_n 0, 1) := by decide +kernel
theorem dX8_copyFrom_130 : decode cX8_copyFrom 130 = .ok (.aload_n 1, 1) := by decide +kernel
theorem dX8_copyFrom_131 : decode cX8_copyFrom 131 = .ok (.getfield 62, 3) := by decide +kernel
theorem dX8_copyFrom_134 : decode cX8_copyFrom 134 = .ok (.putfield 62, 3) := by decide +kernel
theorem dX8_copyFrom_137 : decode cX8_copyFrom 137 = .ok (.aload_n 0, 1) := by decide +kernel
theorem dX8_copyFrom_138 : decode cX8_copyFrom 138 = .ok (.aload_n 1, 1) := by decide +kernel
theorem dX8_copyFrom_139 : decode cX8_copyFrom 139 = .ok (.getfield 33, 3) := by decide +kernel
theorem dX8_copyFrom_142 : decode cX8_copyFrom 142 = .ok (.putfield 33, 3) := by decide +kernel
theorem dX8_copyFrom_145 : decode cX8_copyFrom 145 = .ok (.return_, 1) := by decide +kernel
theorem dX8_addPerson_0 : decode cX8_addPerson 0 = .ok (.aload_n 0, 1) := by decide +kernel
theorem dX8_addPerson_1 : decode cX8_addPerson 1 = .ok (.getfield 53, 3) := by decide +kernel
theorem dX8_addPerson_4 : decode cX8_addPerson 4 = .ok (.istore 5, 2) := by decide +kernel
theorem dX8_addPerson_6 : decode cX8_addPerson 6 = .ok (.aload_n 0, 1) := by decide +kernel
theorem dX8_addPerson_7 : decode cX8_addPerson 7 = .ok (.getfield 9, 3) := by decide +kernel
theorem dX8_addPerson_10 : decode cX8_addPerson 10 = .ok (.iload 5, 2) := by decide +kernel
theorem dX8_addPerson_12 : decode cX8_addPerson 12 = .ok (.iload_n 1, 1) := by decide +kernel
theorem dX8_addPerson_13 : decode cX8_addPerson 13 = .ok (.iastore, 1) := by decide +kernel
theorem dX8_addPerson_14 : decode cX8_addPerson 14 = .ok (.aload_n 0, 1) := by decide +kernel
theorem dX8_addPerson_15 : decode cX8_addPerson 15 = .ok (.getfield 15, 3) := by decide +kernel
theorem dX8_addPerson_18 : decode cX8_addPerson 18 = .ok (.iload 5, 2) := by decide +kernel
theorem dX8_addPerson_20 : decode cX8_addPerson 20 = .ok (.iload_n 2, 1) := by decide +kernel
theorem dX8_addPerson_21 : decode cX8_addPerson 21 = .ok (.iastore, 1) := by decide +kernel
theorem dX8_addPerson_22 : decode cX8_addPerson 22 = .ok (.aload_n 0, 1) := by decide +kernel
theorem dX8_addPerson_23 : decode cX8_addPerson 23 = .ok (.getfield 18, 3) := by decide +kernel
theorem dX8_addPerson_26 : decode cX8_addPerson 26 = .ok (.iload 5, 2) := by decide +kernel
theorem dX8_addPerson_28 : decode cX8_addPerson 28 = .ok (.iload_n 3, 1) := by decide +kernel
theorem dX8_addPerson_29 : decode cX8_addPerson 29 = .ok (.iastore, 1) := by decide +kernel
theorem dX8_addPerson_30 : decode cX8_addPerson 30 = .ok (.aload_n 0, 1) := by decide +kernel
theorem dX8_addPerson_31 : decode cX8_addPerson 31 = .ok (.getfield 21, 3) := by decide +kernel
theorem dX8_addPerson_34 : decode cX8_addPerson 34 = .ok (.iload 5, 2) := by decide +kernel
theorem dX8_addPerson_36 : decode cX8_addPerson 36 = .ok (.iconst 0, 1) := by decide +kernel
theorem dX8_addPerson_37 : decode cX8_addPerson 37 = .ok (.iastore, 1) := by decide +kernel
theorem dX8_addPerson_38 : decode cX8_addPerson 38 = .ok (.aload_n 0, 1) := by decide +kernel
theorem dX8_addPerson_39 : decode cX8_addPerson 39 = .ok (.getfield 24, 3) := by decide +kernel
theorem dX8_addPerson_42 : decode cX8_addPerson 42 = .ok (.iload 5, 2) := by decide +kernel
theorem dX8_addPerson_44 : decode cX8_addPerson 44 = .ok (.iload 4, 2) := by decide +kernel
theorem dX8_addPerson_46 : decode cX8_addPerson 46 = .ok (.iastore, 1) := by decide +kernel
theorem dX8_addPerson_47 : decode cX8_addPerson 47 = .ok (.aload_n 0, 1) := by decide +kernel
theorem dX8_addPerson_48 : decode cX8_addPerson 48 = .ok (.dup, 1) := by decide +kernel
theorem dX8_addPerson_49 : decode cX8_addPerson 49 = .ok (.getfield 56, 3) := by decide +kernel
theorem dX8_addPerson_52 : decode cX8_addPerson 52 = .ok (.iconst 1, 1) := by decide +kernel
theorem dX8_addPerson_53 : decode cX8_addPerson 53 = .ok (.iload 5, 2) := by decide +kernel
theorem dX8_addPerson_55 : decode cX8_addPerson 55 = .ok (.ishl, 1) := by decide +kernel
theorem dX8_addPerson_56 : decode cX8_addPerson 56 = .ok (.ior, 1) := by decide +kernel
theorem dX8_addPerson_57 : decode cX8_addPerson 57 = .ok (.putfield 56, 3) := by decide +kernel
theorem dX8_addPerson_60 : decode cX8_addPerson 60 = .ok (.aload_n 0, 1) := by decide +kernel
theorem dX8_addPerson_61 : decode cX8_addPerson 61 = .ok (.dup, 1) := by decide +kernel
theorem dX8_addPerson_62 : decode cX8_addPerson 62 = .ok (.getfield 53, 3) := by decide +kernel
theorem dX8_addPerson_65 : decode cX8_addPerson 65 = .ok (.iconst 1, 1) := by decide +kernel
theorem dX8_addPerson_66 : decode cX8_addPerson 66 = .ok (.iadd, 1) := by decide +kernel
theorem dX8_addPerson_67 : decode cX8_addPerson 67 = .ok (.putfield 53, 3) := by decide +kernel
theorem dX8_addPerson_70 : decode cX8_addPerson 70 = .ok (.iload 5, 2) := by decide +kernel
theorem dX8_addPerson_72 : decode cX8_addPerson 72 = .ok (.ireturn, 1) := by decide +kernel
theorem dX8_addOath_0 : decode cX8_addOath 0 = .ok (.aload_n 0, 1) := by decide +kernel
theorem dX8_addOath_1 : decode cX8_addOath 1 = .ok (.getfield 59, 3) := by decide +kernel
theorem dX8_addOath_4 : decode cX8_addOath 4 = .ok (.istore_n 2, 1) := by decide +kernel
theorem dX8_addOath_5 : decode cX8_addOath 5 = .ok (.aload_n 0, 1) := by decide +kernel
theorem dX8_addOath_6 : decode cX8_addOath 6 = .ok (.getfield 27, 3) := by decide +kernel
theorem dX8_addOath_9 : decode cX8_addOath 9 = .ok (.iload_n 2, 1) := by decide +kernel
theorem dX8_addOath_10 : decode cX8_addOath 10 = .ok (.iload_n 1, 1) := by decide +kernel
theorem dX8_addOath_11 : decode cX8_addOath 11 = .ok (.iastore, 1) := by decide +kernel
theorem dX8_addOath_12 : decode cX8_addOath 12 = .ok (.aload_n 0, 1) := by decide +kernel
theorem dX8_addOath_13 : decode cX8_addOath 13 = .ok (.getfield 30, 3) := by decide +kernel
theorem dX8_addOath_16 : decode cX8_addOath 16 = .ok (.iload_n 2, 1) := by decide +kernel
theorem dX8_addOath_17 : decode cX8_addOath 17 = .ok (.iconst 1, 1) := by decide +kernel
theorem dX8_addOath_18 : decode cX8_addOath 18 = .ok (.iload_n 1, 1) := by decide +kernel
theorem dX8_addOath_19 : decode cX8_addOath 19 = .ok (.ishl, 1) := by decide +kernel
theorem dX8_addOath_20 : decode cX8_addOath 20 = .ok (.iastore, 1) := by decide +kernel
theorem dX8_addOath_21 : decode cX8_addOath 21 = .ok (.aload_n 0, 1) := by decide +kernel
theorem dX8_addOath_22 : decode cX8_addOath 22 = .ok (.dup, 1) := by decide +kernel
theorem dX8_addOath_23 : decode cX8_addOath 23 = .ok (.getfield 59, 3) := by decide +kernel
theorem dX8_addOath_26 : decode cX8_addOath 26 = .ok (.iconst 1, 1) := by decide +kernel
theorem dX8_addOath_27 : decode cX8_addOath 27 = .ok (.iadd, 1) := by decide +kernel
theorem dX8_addOath_28 : decode cX8_addOath 28 = .ok (.putfield 59, 3) := by decide +kernel
theorem dX8_addOath_31 : decode cX8_addOath 31 = .ok (.iload_n 2, 1) := by decide +kernel
theorem dX8_addOath_32 : decode cX8_addOath 32 = .ok (.ireturn, 1) := by decide +kernel
theorem dX8_isPerson_0 : decode cX8_isPerson 0 = .ok (.iload_n 1, 1) := by decide +kernel
theorem dX8_isPerson_1 : decode cX8_isPerson 1 = .ok (.ifCond .lt 15, 3) := by decide +kernel
theorem dX8_isPerson_4 : decode cX8_isPerson 4 = .ok (.iload_n 1, 1) := by decide +kernel
theorem dX8_isPerson_5 : decode cX8_isPerson 5 = .ok (.aload_n 0, 1) := by decide +kernel
theorem dX8_isPerson_6 : decode cX8_isPerson 6 = .ok (.getfield 53, 3) := by decide +kernel
theorem dX8_isPerson_9 : decode cX8_isPerson 9 = .ok (.if_icmp .ge 7, 3) := by decide +kernel
theorem dX8_isPerson_12 : decode cX8_isPerson 12 = .ok (.iconst 1, 1) := by decide +kernel
theorem dX8_isPerson_13 : decode cX8_isPerson 13 = .ok (.goto 4, 3) := by decide +kernel
theorem dX8_isPerson_16 : decode cX8_isPerson 16 = .ok (.iconst 0, 1) := by decide +kernel
theorem dX8_isPerson_17 : decode cX8_isPerson 17 = .ok (.ireturn, 1) := by decide +kernel
theorem dX8_isOath_0 : decode cX8_isOath 0 = .ok (.iload_n 1, 1) := by decide +kernel
theorem dX8_isOath_1 : decode cX8_isOath 1 = .ok (.ifCond .lt 15, 3) := by decide +kernel
theorem dX8_isOath_4 : decode cX8_isOath 4 = .ok (.iload_n 1, 1) := by decide +kernel
theorem dX8_isOath_5 : decode cX8_isOath 5 = .ok (.aload_n 0, 1) := by decide +kernel
theorem dX8_isOath_6 : decode cX8_isOath 6 = .ok (.getfield 59, 3) := by decide +kernel
theorem dX8_isOath_9 : decode cX8_isOath 9 = .ok (.if_icmp .ge 7, 3) := by decide +kernel
theorem dX8_isOath_12 : decode cX8_isOath 12 = .ok (.iconst 1, 1) := by decide +kernel
theorem dX8_isOath_13 : decode cX8_isOath 13 = .ok (.goto 4, 3) := by decide +kernel
theorem dX8_isOath_16 : decode cX8_isOath 16 = .ok (.iconst 0, 1) := by decide +kernel
theorem dX8_isOath_17 : decode cX8_isOath 17 = .ok (.ireturn, 1) := by decide +kernel
theorem dX8_lives_0 : decode cX8_lives 0 = .ok (.aload_n 0, 1) := by decide +kernel
theorem dX8_lives_1 : decode cX8_lives 1 = .ok (.iload_n 1, 1) := by decide +kernel
theorem dX8_lives_2 : decode cX8_lives 2 = .ok (.invokevirtual 65, 3) := by decide +kernel
theorem dX8_lives_5 : decode cX8_lives 5 = .ok (.ifCond .eq 18, 3) := by decide +kernel
theorem dX8_lives_8 : decode cX8_lives 8 = .ok (.aload_n 0, 1) := by decide +kernel
theorem dX8_lives_9 : decode cX8_lives 9 = .ok (.getfield 56, 3) := by decide +kernel
theorem dX8_lives_12 : decode cX8_lives 12 = .ok (.iload_n 1, 1) := by decide +kernel
theorem dX8_lives_13 : decode cX8_lives 13 = .ok (.invokestatic 69, 3) := by decide +kernel
theorem dX8_lives_16 : decode cX8_lives 16 = .ok (.ifCond .eq 7, 3) := by decide +kernel
theorem dX8_lives_19 : decode cX8_lives 19 = .ok (.iconst 1, 1) := by decide +kernel
theorem dX8_lives_20 : decode cX8_lives 20 = .ok (.goto 4, 3) := by decide +kernel
theorem dX8_lives_23 : decode cX8_lives 23 = .ok (.iconst 0, 1) := by decide +kernel
theorem dX8_lives_24 : decode cX8_lives 24 = .ok (.ireturn, 1) := by decide +kernel
theorem dX8_heightOf_0 : decode cX8_heightOf 0 = .ok (.iload_n 1, 1) := by decide +kernel
theorem dX8_heightOf_1 : decode cX8_heightOf 1 = .ok (.istore_n 2, 1) := by decide +kernel
theorem dX8_heightOf_2 : decode cX8_heightOf 2 = .ok (.aload_n 0, 1) := by decide +kernel
theorem dX8_heightOf_3 : decode cX8_heightOf 3 = .ok (.getfield 9, 3) := by decide +kernel
theorem dX8_heightOf_6 : decode cX8_heightOf 6 = .ok (.iload_n 1, 1) := by decide +kernel
theorem dX8_heightOf_7 : decode cX8_heightOf 7 = .ok (.iaload, 1) := by decide +kernel
theorem dX8_heightOf_8 : decode cX8_heightOf 8 = .ok (.iconst 4, 1) := by decide +kernel
theorem dX8_heightOf_9 : decode cX8_heightOf 9 = .ok (.if_icmp .ne 35, 3) := by decide +kernel
theorem dX8_heightOf_12 : decode cX8_heightOf 12 = .ok (.aload_n 0, 1) := by decide +kernel
theorem dX8_heightOf_13 : decode cX8_heightOf 13 = .ok (.getfield 24, 3) := by decide +kernel
theorem dX8_heightOf_16 : decode cX8_heightOf 16 = .ok (.iload_n 1, 1) := by decide +kernel
theorem dX8_heightOf_17 : decode cX8_heightOf 17 = .ok (.iaload, 1) := by decide +kernel
theorem dX8_heightOf_18 : decode cX8_heightOf 18 = .ok (.istore_n 3, 1) := by decide +kernel
theorem dX8_heightOf_19 : decode cX8_heightOf 19 = .ok (.aload_n 0, 1) := by decide +kernel
theorem dX8_heightOf_20 : decode cX8_heightOf 20 = .ok (.iload_n 3, 1) := by decide +kernel
theorem dX8_heightOf_21 : decode cX8_heightOf 21 = .ok (.invokevirtual 65, 3) := by decide +kernel
theorem dX8_heightOf_24 : decode cX8_heightOf 24 = .ok (.ifCond .eq 20, 3) := by decide +kernel
theorem dX8_heightOf_27 : decode cX8_heightOf 27 = .ok (.iload_n 3, 1) := by decide +kernel
theorem dX8_heightOf_28 : decode cX8_heightOf 28 = .ok (.iload_n 1, 1) := by decide +kernel
theorem dX8_heightOf_29 : decode cX8_heightOf 29 = .ok (.if_icmp .eq 15, 3) := by decide +kernel
theorem dX8_heightOf_32 : decode cX8_heightOf 32 = .ok (.aload_n 0, 1) := by decide +kernel
theorem dX8_heightOf_33 : decode cX8_heightOf 33 = .ok (.getfield 9, 3) := by decide +kernel
theorem dX8_heightOf_36 : decode cX8_heightOf 36 = .ok (.iload_n 3, 1) := by decide +kernel
theorem dX8_heightOf_37 : decode cX8_heightOf 37 = .ok (.iaload, 1) := by decide +kernel
theorem dX8_heightOf_38 : decode cX8_heightOf 38 = .ok (.iconst 4, 1) := by decide +kernel
theorem dX8_heightOf_39 : decode cX8_heightOf 39 = .ok (.if_icmp .eq 5, 3) := by decide +kernel
theorem dX8_heightOf_42 : decode cX8_heightOf 42 = .ok (.iload_n 3, 1) := by decide +kernel
theorem dX8_heightOf_43 : decode cX8_heightOf 43 = .ok (.istore_n 2, 1) := by decide +kernel
theorem dX8_heightOf_44 : decode cX8_heightOf 44 = .ok (.aload_n 0, 1) := by decide +kernel
theorem dX8_heightOf_45 : decode cX8_heightOf 45 = .ok (.getfield 15, 3) := by decide +kernel
theorem dX8_heightOf_48 : decode cX8_heightOf 48 = .ok (.iload_n 2, 1) := by decide +kernel
theorem dX8_heightOf_49 : decode cX8_heightOf 49 = .ok (.iaload, 1) := by decide +kernel
theorem dX8_heightOf_50 : decode cX8_heightOf 50 = .ok (.aload_n 0, 1) := by decide +kernel
theorem dX8_heightOf_51 : decode cX8_heightOf 51 = .ok (.getfield 21, 3) := by decide +kernel
theorem dX8_heightOf_54 : decode cX8_heightOf 54 = .ok (.iload_n 2, 1) := by decide +kernel
theorem dX8_heightOf_55 : decode cX8_heightOf 55 = .ok (.iaload, 1) := by decide +kernel
theorem dX8_heightOf_56 : decode cX8_heightOf 56 = .ok (.iadd, 1) := by decide +kernel
theorem dX8_heightOf_57 : decode cX8_heightOf 57 = .ok (.ireturn, 1) := by decide +kernel
theorem dX8_tallestOne_0 : decode cX8_tallestOne 0 = .ok (.iconst (-1), 1) := by decide +kernel
theorem dX8_tallestOne_1 : decode cX8_tallestOne 1 = .ok (.istore_n 1, 1) := by decide +kernel
theorem dX8_tallestOne_2 : decode cX8_tallestOne 2 = .ok (.iconst 0, 1) := by decide +kernel
theorem dX8_tallestOne_3 : decode cX8_tallestOne 3 = .ok (.istore_n 2, 1) := by decide +kernel
theorem dX8_tallestOne_4 : decode cX8_tallestOne 4 = .ok (.iconst 0, 1) := by decide +kernel
theorem dX8_tallestOne_5 : decode cX8_tallestOne 5 = .ok (.istore_n 3, 1) := by decide +kernel
theorem dX8_tallestOne_6 : decode cX8_tallestOne 6 = .ok (.iload_n 3, 1) := by decide +kernel
theorem dX8_tallestOne_7 : decode cX8_tallestOne 7 = .ok (.aload_n 0, 1) := by decide +kernel
theorem dX8_tallestOne_8 : decode cX8_tallestOne 8 = .ok (.getfield 53, 3) := by decide +kernel
theorem dX8_tallestOne_11 : decode cX8_tallestOne 11 = .ok (.if_icmp .ge 37, 3) := by decide +kernel
theorem dX8_tallestOne_14 : decode cX8_tallestOne 14 = .ok (.aload_n 0, 1) := by decide +kernel
theorem dX8_tallestOne_15 : decode cX8_tallestOne 15 = .ok (.getfield 56, 3) := by decide +kernel
theorem dX8_tallestOne_18 : decode cX8_tallestOne 18 = .ok (.iload_n 3, 1) := by decide +kernel
theorem dX8_tallestOne_19 : decode cX8_tallestOne 19 = .ok (.invokestatic 69, 3) := by decide +kernel
theorem dX8_tallestOne_22 : decode cX8_tallestOne 22 = .ok (.ifCond .eq 20, 3) := by decide +kernel
theorem dX8_tallestOne_25 : decode cX8_tallestOne 25 = .ok (.aload_n 0, 1) := by decide +kernel
theorem dX8_tallestOne_26 : decode cX8_tallestOne 26 = .ok (.iload_n 3, 1) := by decide +kernel
theorem dX8_tallestOne_27 : decode cX8_tallestOne 27 = .ok (.invokevirtual 73, 3) := by decide +kernel
theorem dX8_tallestOne_30 : decode cX8_tallestOne 30 = .ok (.iload_n 2, 1) := by decide +kernel
theorem dX8_tallestOne_31 : decode cX8_tallestOne 31 = .ok (.if_icmp .le 11, 3) := by decide +kernel
theorem dX8_tallestOne_34 : decode cX8_tallestOne 34 = .ok (.iload_n 3, 1) := by decide +kernel
theorem dX8_tallestOne_35 : decode cX8_tallestOne 35 = .ok (.istore_n 1, 1) := by decide +kernel
theorem dX8_tallestOne_36 : decode cX8_tallestOne 36 = .ok (.aload_n 0, 1) := by decide +kernel
theorem dX8_tallestOne_37 : decode cX8_tallestOne 37 = .ok (.iload_n 3, 1) := by decide +kernel
theorem dX8_tallestOne_38 : decode cX8_tallestOne 38 = .ok (.invokevirtual 73, 3) := by decide +kernel
theorem dX8_tallestOne_41 : decode cX8_tallestOne 41 = .ok (.istore_n 2, 1) := by decide +kernel
theorem dX8_tallestOne_42 : decode cX8_tallestOne 42 = .ok (.iinc 3 1, 3) := by decide +kernel
theorem dX8_tallestOne_45 : decode cX8_tallestOne 45 = .ok (.goto (-39), 3) := by decide +kernel
theorem dX8_tallestOne_48 : decode cX8_tallestOne 48 = .ok (.iload_n 1, 1) := by decide +kernel
theorem dX8_tallestOne_49 : decode cX8_tallestOne 49 = .ok (.ireturn, 1) := by decide +kernel
theorem dX8_nextDraw_0 : decode cX8_nextDraw 0 = .ok (.aload_n 0, 1) := by decide +kernel
theorem dX8_nextDraw_1 : decode cX8_nextDraw 1 = .ok (.sipush 25173, 3) := by decide +kernel
theorem dX8_nextDraw_4 : decode cX8_nextDraw 4 = .ok (.aload_n 0, 1) := by decide +kernel
theorem dX8_nextDraw_5 : decode cX8_nextDraw 5 = .ok (.getfield 33, 3) := by decide +kernel
theorem dX8_nextDraw_8 : decode cX8_nextDraw 8 = .ok (.imul, 1) := by decide +kernel
theorem dX8_nextDraw_9 : decode cX8_nextDraw 9 = .ok (.sipush 13849, 3) := by decide +kernel
theorem dX8_nextDraw_12 : decode cX8_nextDraw 12 = .ok (.iadd, 1) := by decide +kernel
theorem dX8_nextDraw_13 : decode cX8_nextDraw 13 = .ok (.ldc 77, 2) := by decide +kernel
theorem dX8_nextDraw_15 : decode cX8_nextDraw 15 = .ok (.iand, 1) := by decide +kernel
theorem dX8_nextDraw_16 : decode cX8_nextDraw 16 = .ok (.putfield 33, 3) := by decide +kernel
theorem dX8_nextDraw_19 : decode cX8_nextDraw 19 = .ok (.aload_n 0, 1) := by decide +kernel
theorem dX8_nextDraw_20 : decode cX8_nextDraw 20 = .ok (.getfield 33, 3) := by decide +kernel
theorem dX8_nextDraw_23 : decode cX8_nextDraw 23 = .ok (.bipush 10, 2) := by decide +kernel
theorem dX8_nextDraw_25 : decode cX8_nextDraw 25 = .ok (.irem, 1) := by decide +kernel
theorem dX8_nextDraw_26 : decode cX8_nextDraw 26 = .ok (.ireturn, 1) := by decide +kernel
theorem dX8_passYear_0 : decode cX8_passYear 0 = .ok (.aload_n 0, 1) := by decide +kernel
theorem dX8_passYear_1 : decode cX8_passYear 1 = .ok (.getfield 43, 3) := by decide +kernel
theorem dX8_passYear_4 : decode cX8_passYear 4 = .ok (.aload_n 0, 1) := by decide +kernel
theorem dX8_passYear_5 : decode cX8_passYear 5 = .ok (.getfield 62, 3) := by decide +kernel
theorem dX8_passYear_8 : decode cX8_passYear 8 = .ok (.iload_n 2, 1) := by decide +kernel
theorem dX8_passYear_9 : decode cX8_passYear 9 = .ok (.invokevirtual 78, 3) := by decide +kernel
theorem dX8_passYear_12 : decode cX8_passYear 12 = .ok (.aload_n 0, 1) := by decide +kernel
theorem dX8_passYear_13 : decode cX8_passYear 13 = .ok (.invokevirtual 82, 3) := by decide +kernel
theorem dX8_passYear_16 : decode cX8_passYear 16 = .ok (.aload_n 0, 1) := by decide +kernel
theorem dX8_passYear_17 : decode cX8_passYear 17 = .ok (.aload_n 1, 1) := by decide +kernel
theorem dX8_passYear_18 : decode cX8_passYear 18 = .ok (.invokevirtual 85, 3) := by decide +kernel
theorem dX8_passYear_21 : decode cX8_passYear 21 = .ok (.aload_n 0, 1) := by decide +kernel
theorem dX8_passYear_22 : decode cX8_passYear 22 = .ok (.aload_n 1, 1) := by decide +kernel
theorem dX8_passYear_23 : decode cX8_passYear 23 = .ok (.invokevirtual 89, 3) := by decide +kernel
theorem dX8_passYear_26 : decode cX8_passYear 26 = .ok (.istore_n 3, 1) := by decide +kernel
theorem dX8_passYear_27 : decode cX8_passYear 27 = .ok (.aload_n 0, 1) := by decide +kernel
theorem dX8_passYear_28 : decode cX8_passYear 28 = .ok (.dup, 1) := by decide +kernel
theorem dX8_passYear_29 : decode cX8_passYear 29 = .ok (.getfield 56, 3) := by decide +kernel
theorem dX8_passYear_32 : decode cX8_passYear 32 = .ok (.iload_n 3, 1) := by decide +kernel
theorem dX8_passYear_33 : decode cX8_passYear 33 = .ok (.iconst (-1), 1) := by decide +kernel
theorem dX8_passYear_34 : decode cX8_passYear 34 = .ok (.ixor, 1) := by decide +kernel
theorem dX8_passYear_35 : decode cX8_passYear 35 = .ok (.iand, 1) := by decide +kernel
theorem dX8_passYear_36 : decode cX8_passYear 36 = .ok (.putfield 56, 3) := by decide +kernel
theorem dX8_passYear_39 : decode cX8_passYear 39 = .ok (.aload_n 0, 1) := by decide +kernel
theorem dX8_passYear_40 : decode cX8_passYear 40 = .ok (.aload_n 0, 1) := by decide +kernel
theorem dX8_passYear_41 : decode cX8_passYear 41 = .ok (.getfield 62, 3) := by decide +kernel
theorem dX8_passYear_44 : decode cX8_passYear 44 = .ok (.iconst 1, 1) := by decide +kernel
theorem dX8_passYear_45 : decode cX8_passYear 45 = .ok (.iadd, 1) := by decide +kernel
theorem dX8_passYear_46 : decode cX8_passYear 46 = .ok (.sipush 999, 3) := by decide +kernel
theorem dX8_passYear_49 : decode cX8_passYear 49 = .ok (.invokestatic 93, 3) := by decide +kernel
theorem dX8_passYear_52 : decode cX8_passYear 52 = .ok (.putfield 62, 3) := by decide +kernel
theorem dX8_passYear_55 : decode cX8_passYear 55 = .ok (.iload_n 3, 1) := by decide +kernel
theorem dX8_passYear_56 : decode cX8_passYear 56 = .ok (.invokestatic 99, 3) := by decide +kernel
theorem dX8_passYear_59 : decode cX8_passYear 59 = .ok (.ireturn, 1) := by decide +kernel
theorem dX8_growOlder_0 : decode cX8_growOlder 0 = .ok (.iconst 0, 1) := by decide +kernel
theorem dX8_growOlder_1 : decode cX8_growOlder 1 = .ok (.istore_n 1, 1) := by decide +kernel
theorem dX8_growOlder_2 : decode cX8_growOlder 2 = .ok (.iload_n 1, 1) := by decide +kernel
theorem dX8_growOlder_3 : decode cX8_growOlder 3 = .ok (.aload_n 0, 1) := by decide +kernel
theorem dX8_growOlder_4 : decode cX8_growOlder 4 = .ok (.getfield 53, 3) := by decide +kernel
theorem dX8_growOlder_7 : decode cX8_growOlder 7 = .ok (.if_icmp .ge 39, 3) := by decide +kernel
theorem dX8_growOlder_10 : decode cX8_growOlder 10 = .ok (.aload_n 0, 1) := by decide +kernel
theorem dX8_growOlder_11 : decode cX8_growOlder 11 = .ok (.getfield 56, 3) := by decide +kernel
theorem dX8_growOlder_14 : decode cX8_growOlder 14 = .ok (.iload_n 1, 1) := by decide +kernel
theorem dX8_growOlder_15 : decode cX8_growOlder 15 = .ok (.invokestatic 69, 3) := by decide +kernel
theorem dX8_growOlder_18 : decode cX8_growOlder 18 = .ok (.ifCond .eq 22, 3) := by decide +kernel
theorem dX8_growOlder_21 : decode cX8_growOlder 21 = .ok (.aload_n 0, 1) := by decide +kernel
theorem dX8_growOlder_22 : decode cX8_growOlder 22 = .ok (.getfield 18, 3) := by decide +kernel
theorem dX8_growOlder_25 : decode cX8_growOlder 25 = .ok (.iload_n 1, 1) := by decide +kernel
theorem dX8_growOlder_26 : decode cX8_growOlder 26 = .ok (.aload_n 0, 1) := by decide +kernel
theorem dX8_growOlder_27 : decode cX8_growOlder 27 = .ok (.getfield 18, 3) := by decide +kernel
theorem dX8_growOlder_30 : decode cX8_growOlder 30 = .ok (.iload_n 1, 1) := by decide +kernel
theorem dX8_growOlder_31 : decode cX8_growOlder 31 = .ok (.iaload, 1) := by decide +kernel
theorem dX8_growOlder_32 : decode cX8_growOlder 32 = .ok (.iconst 1, 1) := by decide +kernel
theorem dX8_growOlder_33 : decode cX8_growOlder 33 = .ok (.iadd, 1) := by decide +kernel
theorem dX8_growOlder_34 : decode cX8_growOlder 34 = .ok (.bipush 99, 2) := by decide +kernel
theorem dX8_growOlder_36 : decode cX8_growOlder 36 = .ok (.invokestatic 93, 3) := by decide +kernel
theorem dX8_growOlder_39 : decode cX8_growOlder 39 = .ok (.iastore, 1) := by decide +kernel
theorem dX8_growOlder_40 : decode cX8_growOlder 40 = .ok (.iinc 1 1, 3) := by decide +kernel
theorem dX8_growOlder_43 : decode cX8_growOlder 43 = .ok (.goto (-41), 3) := by decide +kernel
theorem dX8_growOlder_46 : decode cX8_growOlder 46 = .ok (.return_, 1) := by decide +kernel
theorem dX8_growTaller_0 : decode cX8_growTaller 0 = .ok (.iconst 0, 1) := by decide +kernel
theorem dX8_growTaller_1 : decode cX8_growTaller 1 = .ok (.istore_n 2, 1) := by decide +kernel
theorem dX8_growTaller_2 : decode cX8_growTaller 2 = .ok (.iload_n 2, 1) := by decide +kernel
theorem dX8_growTaller_3 : decode cX8_growTaller 3 = .ok (.aload_n 0, 1) := by decide +kernel
theorem dX8_growTaller_4 : decode cX8_growTaller 4 = .ok (.getfield 53, 3) := by decide +kernel
theorem dX8_growTaller_7 : decode cX8_growTaller 7 = .ok (.if_icmp .ge 86, 3) := by decide +kernel
theorem dX8_growTaller_10 : decode cX8_growTaller 10 = .ok (.aload_n 0, 1) := by decide +kernel
theorem dX8_growTaller_11 : decode cX8_growTaller 11 = .ok (.getfield 37, 3) := by decide +kernel
theorem dX8_growTaller_14 : decode cX8_growTaller 14 = .ok (.iload_n 2, 1) := by decide +kernel
theorem dX8_growTaller_15 : decode cX8_growTaller 15 = .ok (.iconst 0, 1) := by decide +kernel
theorem dX8_growTaller_16 : decode cX8_growTaller 16 = .ok (.iastore, 1) := by decide +kernel
theorem dX8_growTaller_17 : decode cX8_growTaller 17 = .ok (.aload_n 0, 1) := by decide +kernel
theorem dX8_growTaller_18 : decode cX8_growTaller 18 = .ok (.getfield 56, 3) := by decide +kernel
theorem dX8_growTaller_21 : decode cX8_growTaller 21 = .ok (.iload_n 2, 1) := by decide +kernel
theorem dX8_growTaller_22 : decode cX8_growTaller 22 = .ok (.invokestatic 69, 3) := by decide +kernel
theorem dX8_growTaller_25 : decode cX8_growTaller 25 = .ok (.ifCond .eq 62, 3) := by decide +kernel
theorem dX8_growTaller_28 : decode cX8_growTaller 28 = .ok (.aload_n 0, 1) := by decide +kernel
theorem dX8_growTaller_29 : decode cX8_growTaller 29 = .ok (.getfield 43, 3) := by decide +kernel
theorem dX8_growTaller_32 : decode cX8_growTaller 32 = .ok (.aload_n 0, 1) := by decide +kernel
theorem dX8_growTaller_33 : decode cX8_growTaller 33 = .ok (.iload_n 2, 1) := by decide +kernel
theorem dX8_growTaller_34 : decode cX8_growTaller 34 = .ok (.invokevirtual 104, 3) := by decide +kernel
theorem dX8_growTaller_37 : decode cX8_growTaller 37 = .ok (.aload_n 0, 1) := by decide +kernel
theorem dX8_growTaller_38 : decode cX8_growTaller 38 = .ok (.getfield 9, 3) := by decide +kernel
theorem dX8_growTaller_41 : decode cX8_growTaller 41 = .ok (.iload_n 2, 1) := by decide +kernel
theorem dX8_growTaller_42 : decode cX8_growTaller 42 = .ok (.iaload, 1) := by decide +kernel
theorem dX8_growTaller_43 : decode cX8_growTaller 43 = .ok (.iconst 2, 1) := by decide +kernel
theorem dX8_growTaller_44 : decode cX8_growTaller 44 = .ok (.if_icmp .ne 18, 3) := by decide +kernel
theorem dX8_growTaller_47 : decode cX8_growTaller 47 = .ok (.aload_n 0, 1) := by decide +kernel
theorem dX8_growTaller_48 : decode cX8_growTaller 48 = .ok (.getfield 18, 3) := by decide +kernel
theorem dX8_growTaller_51 : decode cX8_growTaller 51 = .ok (.iload_n 2, 1) := by decide +kernel
theorem dX8_growTaller_52 : decode cX8_growTaller 52 = .ok (.iaload, 1) := by decide +kernel
theorem dX8_growTaller_53 : decode cX8_growTaller 53 = .ok (.bipush 20, 2) := by decide +kernel
theorem dX8_growTaller_55 : decode cX8_growTaller 55 = .ok (.if_icmp .ge 7, 3) := by decide +kernel
theorem dX8_growTaller_58 : decode cX8_growTaller 58 = .ok (.iconst 1, 1) := by decide +kernel
theorem dX8_growTaller_59 : decode cX8_growTaller 59 = .ok (.goto 4, 3) := by decide +kernel
theorem dX8_growTaller_62 : decode cX8_growTaller 62 = .ok (.iconst 0, 1) := by decide +kernel
theorem dX8_growTaller_63 : decode cX8_growTaller 63 = .ok (.istore_n 3, 1) := by decide +kernel
theorem dX8_growTaller_64 : decode cX8_growTaller 64 = .ok (.aload_n 0, 1) := by decide +kernel
theorem dX8_growTaller_65 : decode cX8_growTaller 65 = .ok (.getfield 37, 3) := by decide +kernel
theorem dX8_growTaller_68 : decode cX8_growTaller 68 = .ok (.iload_n 2, 1) := by decide +kernel
theorem dX8_growTaller_69 : decode cX8_growTaller 69 = .ok (.aload_n 1, 1) := by decide +kernel
theorem dX8_growTaller_70 : decode cX8_growTaller 70 = .ok (.bipush 103, 2) := by decide +kernel
theorem dX8_growTaller_72 : decode cX8_growTaller 72 = .ok (.bipush 9, 2) := by decide +kernel
theorem dX8_growTaller_74 : decode cX8_growTaller 74 = .ok (.aload_n 0, 1) := by decide +kernel
theorem dX8_growTaller_75 : decode cX8_growTaller 75 = .ok (.getfield 43, 3) := by decide +kernel
theorem dX8_growTaller_78 : decode cX8_growTaller 78 = .ok (.getfield 108, 3) := by decide +kernel
theorem dX8_growTaller_81 : decode cX8_growTaller 81 = .ok (.invokevirtual 111, 3) := by decide +kernel
theorem dX8_growTaller_84 : decode cX8_growTaller 84 = .ok (.iload_n 3, 1) := by decide +kernel
theorem dX8_growTaller_85 : decode cX8_growTaller 85 = .ok (.iadd, 1) := by decide +kernel
theorem dX8_growTaller_86 : decode cX8_growTaller 86 = .ok (.iastore, 1) := by decide +kernel
theorem dX8_growTaller_87 : decode cX8_growTaller 87 = .ok (.iinc 2 1, 3) := by decide +kernel
theorem dX8_growTaller_90 : decode cX8_growTaller 90 = .ok (.goto (-88), 3) := by decide +kernel
theorem dX8_growTaller_93 : decode cX8_growTaller 93 = .ok (.iconst 0, 1) := by decide +kernel
theorem dX8_growTaller_94 : decode cX8_growTaller 94 = .ok (.istore_n 2, 1) := by decide +kernel
theorem dX8_growTaller_95 : decode cX8_growTaller 95 = .ok (.iload_n 2, 1) := by decide +kernel
theorem dX8_growTaller_96 : decode cX8_growTaller 96 = .ok (.aload_n 0, 1) := by decide +kernel
theorem dX8_growTaller_97 : decode cX8_growTaller 97 = .ok (.getfield 53, 3) := by decide +kernel
theorem dX8_growTaller_100 : decode cX8_growTaller 100 = .ok (.if_icmp .ge 33, 3) := by decide +kernel
theorem dX8_growTaller_103 : decode cX8_growTaller 103 = .ok (.aload_n 0, 1) := by decide +kernel
theorem dX8_growTaller_104 : decode cX8_growTaller 104 = .ok (.getfield 15, 3) := by decide +kernel
theorem dX8_growTaller_107 : decode cX8_growTaller 107 = .ok (.iload_n 2, 1) := by decide +kernel
theorem dX8_growTaller_108 : decode cX8_growTaller 108 = .ok (.aload_n 0, 1) := by decide +kernel
theorem dX8_growTaller_109 : decode cX8_growTaller 109 = .ok (.getfield 15, 3) := by decide +kernel
theorem dX8_growTaller_112 : decode cX8_growTaller 112 = .ok (.iload_n 2, 1) := by decide +kernel
theorem dX8_growTaller_113 : decode cX8_growTaller 113 = .ok (.iaload, 1) := by decide +kernel
theorem dX8_growTaller_114 : decode cX8_growTaller 114 = .ok (.aload_n 0, 1) := by decide +kernel
theorem dX8_growTaller_115 : decode cX8_growTaller 115 = .ok (.getfield 37, 3) := by decide +kernel
theorem dX8_growTaller_118 : decode cX8_growTaller 118 = .ok (.iload_n 2, 1) := by decide +kernel
theorem dX8_growTaller_119 : decode cX8_growTaller 119 = .ok (.iaload, 1) := by decide +kernel
theorem dX8_growTaller_120 : decode cX8_growTaller 120 = .ok (.iadd, 1) := by decide +kernel
theorem dX8_growTaller_121 : decode cX8_growTaller 121 = .ok (.bipush 99, 2) := by decide +kernel
theorem dX8_growTaller_123 : decode cX8_growTaller 123 = .ok (.invokestatic 93, 3) := by decide +kernel
theorem dX8_growTaller_126 : decode cX8_growTaller 126 = .ok (.iastore, 1) := by decide +kernel
theorem dX8_growTaller_127 : decode cX8_growTaller 127 = .ok (.iinc 2 1, 3) := by decide +kernel
theorem dX8_growTaller_130 : decode cX8_growTaller 130 = .ok (.goto (-35), 3) := by decide +kernel
theorem dX8_growTaller_133 : decode cX8_growTaller 133 = .ok (.return_, 1) := by decide +kernel
theorem dX8_whoDies_0 : decode cX8_whoDies 0 = .ok (.iconst 0, 1) := by decide +kernel
theorem dX8_whoDies_1 : decode cX8_whoDies 1 = .ok (.istore_n 2, 1) := by decide +kernel
theorem dX8_whoDies_2 : decode cX8_whoDies 2 = .ok (.iconst 0, 1) := by decide +kernel
theorem dX8_whoDies_3 : decode cX8_whoDies 3 = .ok (.istore_n 3, 1) := by decide +kernel
theorem dX8_whoDies_4 : decode cX8_whoDies 4 = .ok (.iload_n 3, 1) := by decide +kernel
theorem dX8_whoDies_5 : decode cX8_whoDies 5 = .ok (.aload_n 0, 1) := by decide +kernel
theorem dX8_whoDies_6 : decode cX8_whoDies 6 = .ok (.getfield 53, 3) := by decide +kernel
theorem dX8_whoDies_9 : decode cX8_whoDies 9 = .ok (.if_icmp .ge 51, 3) := by decide +kernel
theorem dX8_whoDies_12 : decode cX8_whoDies 12 = .ok (.aload_n 0, 1) := by decide +kernel
theorem dX8_whoDies_13 : decode cX8_whoDies 13 = .ok (.getfield 56, 3) := by decide +kernel
theorem dX8_whoDies_16 : decode cX8_whoDies 16 = .ok (.iload_n 3, 1) := by decide +kernel
theorem dX8_whoDies_17 : decode cX8_whoDies 17 = .ok (.invokestatic 69, 3) := by decide +kernel
theorem dX8_whoDies_20 : decode cX8_whoDies 20 = .ok (.ifCond .eq 34, 3) := by decide +kernel
theorem dX8_whoDies_23 : decode cX8_whoDies 23 = .ok (.aload_n 0, 1) := by decide +kernel
theorem dX8_whoDies_24 : decode cX8_whoDies 24 = .ok (.getfield 43, 3) := by decide +kernel
theorem dX8_whoDies_27 : decode cX8_whoDies 27 = .ok (.aload_n 0, 1) := by decide +kernel
theorem dX8_whoDies_28 : decode cX8_whoDies 28 = .ok (.iload_n 3, 1) := by decide +kernel
theorem dX8_whoDies_29 : decode cX8_whoDies 29 = .ok (.invokevirtual 104, 3) := by decide +kernel
theorem dX8_whoDies_32 : decode cX8_whoDies 32 = .ok (.aload_n 1, 1) := by decide +kernel
theorem dX8_whoDies_33 : decode cX8_whoDies 33 = .ok (.bipush 120, 2) := by decide +kernel
theorem dX8_whoDies_35 : decode cX8_whoDies 35 = .ok (.aload_n 0, 1) := by decide +kernel
theorem dX8_whoDies_36 : decode cX8_whoDies 36 = .ok (.getfield 43, 3) := by decide +kernel
theorem dX8_whoDies_39 : decode cX8_whoDies 39 = .ok (.getfield 108, 3) := by decide +kernel
theorem dX8_whoDies_42 : decode cX8_whoDies 42 = .ok (.invokevirtual 117, 3) := by decide +kernel
theorem dX8_whoDies_45 : decode cX8_whoDies 45 = .ok (.ifCond .eq 9, 3) := by decide +kernel
theorem dX8_whoDies_48 : decode cX8_whoDies 48 = .ok (.iload_n 2, 1) := by decide +kernel
theorem dX8_whoDies_49 : decode cX8_whoDies 49 = .ok (.iconst 1, 1) := by decide +kernel
theorem dX8_whoDies_50 : decode cX8_whoDies 50 = .ok (.iload_n 3, 1) := by decide +kernel
theorem dX8_whoDies_51 : decode cX8_whoDies 51 = .ok (.ishl, 1) := by decide +kernel
theorem dX8_whoDies_52 : decode cX8_whoDies 52 = .ok (.ior, 1) := by decide +kernel
theorem dX8_whoDies_53 : decode cX8_whoDies 53 = .ok (.istore_n 2, 1) := by decide +kernel
theorem dX8_whoDies_54 : decode cX8_whoDies 54 = .ok (.iinc 3 1, 3) := by decide +kernel
theorem dX8_whoDies_57 : decode cX8_whoDies 57 = .ok (.goto (-53), 3) := by decide +kernel
theorem dX8_whoDies_60 : decode cX8_whoDies 60 = .ok (.iload_n 2, 1) := by decide +kernel
theorem dX8_whoDies_61 : decode cX8_whoDies 61 = .ok (.ireturn, 1) := by decide +kernel
theorem dJ11_isValidCodePoint_9a6ad_0 : decode cJ11_isValidCodePoint_9a6ad 0 = .ok (.iload_n 0, 1) := by decide +kernel
theorem dJ11_isValidCodePoint_9a6ad_1 : decode cJ11_isValidCodePoint_9a6ad 1 = .ok (.bipush 16, 2) := by decide +kernel
theorem dJ11_isValidCodePoint_9a6ad_3 : decode cJ11_isValidCodePoint_9a6ad 3 = .ok (.iushr, 1) := by decide +kernel
theorem dJ11_isValidCodePoint_9a6ad_4 : decode cJ11_isValidCodePoint_9a6ad 4 = .ok (.istore_n 1, 1) := by decide +kernel
theorem dJ11_isValidCodePoint_9a6ad_5 : decode cJ11_isValidCodePoint_9a6ad 5 = .ok (.iload_n 1, 1) := by decide +kernel
theorem dJ11_isValidCodePoint_9a6ad_6 : decode cJ11_isValidCodePoint_9a6ad 6 = .ok (.bipush 17, 2) := by decide +kernel
theorem dJ11_isValidCodePoint_9a6ad_8 : decode cJ11_isValidCodePoint_9a6ad 8 = .ok (.if_icmp .ge 7, 3) := by decide +kernel
theorem dJ11_isValidCodePoint_9a6ad_11 : decode cJ11_isValidCodePoint_9a6ad 11 = .ok (.iconst 1, 1) := by decide +kernel
theorem dJ11_isValidCodePoint_9a6ad_12 : decode cJ11_isValidCodePoint_9a6ad 12 = .ok (.goto 4, 3) := by decide +kernel
theorem dJ11_isValidCodePoint_9a6ad_15 : decode cJ11_isValidCodePoint_9a6ad 15 = .ok (.iconst 0, 1) := by decide +kernel
theorem dJ11_isValidCodePoint_9a6ad_16 : decode cJ11_isValidCodePoint_9a6ad 16 = .ok (.ireturn, 1) := by decide +kernel
theorem dJ11_highSurrogate_5068e_0 : decode cJ11_highSurrogate_5068e 0 = .ok (.iload_n 0, 1) := by decide +kernel
theorem dJ11_highSurrogate_5068e_1 : decode cJ11_highSurrogate_5068e 1 = .ok (.bipush 10, 2) := by decide +kernel
theorem dJ11_highSurrogate_5068e_3 : decode cJ11_highSurrogate_5068e 3 = .ok (.iushr, 1) := by decide +kernel
theorem dJ11_highSurrogate_5068e_4 : decode cJ11_highSurrogate_5068e 4 = .ok (.ldc 110, 2) := by decide +kernel
theorem dJ11_highSurrogate_5068e_6 : decode cJ11_highSurrogate_5068e 6 = .ok (.iadd, 1) := by decide +kernel
theorem dJ11_highSurrogate_5068e_7 : decode cJ11_highSurrogate_5068e 7 = .ok (.i2c, 1) := by decide +kernel
theorem dJ11_highSurrogate_5068e_8 : decode cJ11_highSurrogate_5068e 8 = .ok (.ireturn, 1) := by decide +kernel
theorem dJ11_lowSurrogate_5068e_0 : decode cJ11_lowSurrogate_5068e 0 = .ok (.iload_n 0, 1) := by decide +kernel
theorem dJ11_lowSurrogate_5068e_1 : decode cJ11_lowSurrogate_5068e 1 = .ok (.sipush 1023, 3) := by decide +kernel
theorem dJ11_lowSurrogate_5068e_4 : decode cJ11_lowSurrogate_5068e 4 = .ok (.iand, 1) := by decide +kernel
theorem dJ11_lowSurrogate_5068e_5 : decode cJ11_lowSurrogate_5068e 5 = .ok (.ldc 76, 2) := by decide +kernel
theorem dJ11_lowSurrogate_5068e_7 : decode cJ11_lowSurrogate_5068e 7 = .ok (.iadd, 1) := by decide +kernel
theorem dJ11_lowSurrogate_5068e_8 : decode cJ11_lowSurrogate_5068e 8 = .ok (.i2c, 1) := by decide +kernel
theorem dJ11_lowSurrogate_5068e_9 : decode cJ11_lowSurrogate_5068e 9 = .ok (.ireturn, 1) := by decide +kernel
theorem dJ6_bitCount_0f7a4_0 : decode cJ6_bitCount_0f7a4 0 = .ok (.iload_n 0, 1) := by decide +kernel
theorem dJ6_bitCount_0f7a4_1 : decode cJ6_bitCount_0f7a4 1 = .ok (.iload_n 0, 1) := by decide +kernel
theorem dJ6_bitCount_0f7a4_2 : decode cJ6_bitCount_0f7a4 2 = .ok (.iconst 1, 1) := by decide +kernel
theorem dJ6_bitCount_0f7a4_3 : decode cJ6_bitCount_0f7a4 3 = .ok (.iushr, 1) := by decide +kernel
theorem dJ6_bitCount_0f7a4_4 : decode cJ6_bitCount_0f7a4 4 = .ok (.ldc_w 265, 3) := by decide +kernel
theorem dJ6_bitCount_0f7a4_7 : decode cJ6_bitCount_0f7a4 7 = .ok (.iand, 1) := by decide +kernel
theorem dJ6_bitCount_0f7a4_8 : decode cJ6_bitCount_0f7a4 8 = .ok (.isub, 1) := by decide +kernel
theorem dJ6_bitCount_0f7a4_9 : decode cJ6_bitCount_0f7a4 9 = .ok (.istore_n 0, 1) := by decide +kernel
theorem dJ6_bitCount_0f7a4_10 : decode cJ6_bitCount_0f7a4 10 = .ok (.iload_n 0, 1) := by decide +kernel
theorem dJ6_bitCount_0f7a4_11 : decode cJ6_bitCount_0f7a4 11 = .ok (.ldc_w 266, 3) := by decide +kernel
theorem dJ6_bitCount_0f7a4_14 : decode cJ6_bitCount_0f7a4 14 = .ok (.iand, 1) := by decide +kernel
theorem dJ6_bitCount_0f7a4_15 : decode cJ6_bitCount_0f7a4 15 = .ok (.iload_n 0, 1) := by decide +kernel
theorem dJ6_bitCount_0f7a4_16 : decode cJ6_bitCount_0f7a4 16 = .ok (.iconst 2, 1) := by decide +kernel
theorem dJ6_bitCount_0f7a4_17 : decode cJ6_bitCount_0f7a4 17 = .ok (.iushr, 1) := by decide +kernel
theorem dJ6_bitCount_0f7a4_18 : decode cJ6_bitCount_0f7a4 18 = .ok (.ldc_w 266, 3) := by decide +kernel
theorem dJ6_bitCount_0f7a4_21 : decode cJ6_bitCount_0f7a4 21 = .ok (.iand, 1) := by decide +kernel
theorem dJ6_bitCount_0f7a4_22 : decode cJ6_bitCount_0f7a4 22 = .ok (.iadd, 1) := by decide +kernel
theorem dJ6_bitCount_0f7a4_23 : decode cJ6_bitCount_0f7a4 23 = .ok (.istore_n 0, 1) := by decide +kernel
theorem dJ6_bitCount_0f7a4_24 : decode cJ6_bitCount_0f7a4 24 = .ok (.iload_n 0, 1) := by decide +kernel
theorem dJ6_bitCount_0f7a4_25 : decode cJ6_bitCount_0f7a4 25 = .ok (.iload_n 0, 1) := by decide +kernel
theorem dJ6_bitCount_0f7a4_26 : decode cJ6_bitCount_0f7a4 26 = .ok (.iconst 4, 1) := by decide +kernel
theorem dJ6_bitCount_0f7a4_27 : decode cJ6_bitCount_0f7a4 27 = .ok (.iushr, 1) := by decide +kernel
theorem dJ6_bitCount_0f7a4_28 : decode cJ6_bitCount_0f7a4 28 = .ok (.iadd, 1) := by decide +kernel
theorem dJ6_bitCount_0f7a4_29 : decode cJ6_bitCount_0f7a4 29 = .ok (.ldc_w 267, 3) := by decide +kernel
theorem dJ6_bitCount_0f7a4_32 : decode cJ6_bitCount_0f7a4 32 = .ok (.iand, 1) := by decide +kernel
theorem dJ6_bitCount_0f7a4_33 : decode cJ6_bitCount_0f7a4 33 = .ok (.istore_n 0, 1) := by decide +kernel
theorem dJ6_bitCount_0f7a4_34 : decode cJ6_bitCount_0f7a4 34 = .ok (.iload_n 0, 1) := by decide +kernel
theorem dJ6_bitCount_0f7a4_35 : decode cJ6_bitCount_0f7a4 35 = .ok (.iload_n 0, 1) := by decide +kernel
theorem dJ6_bitCount_0f7a4_36 : decode cJ6_bitCount_0f7a4 36 = .ok (.bipush 8, 2) := by decide +kernel
theorem dJ6_bitCount_0f7a4_38 : decode cJ6_bitCount_0f7a4 38 = .ok (.iushr, 1) := by decide +kernel
theorem dJ6_bitCount_0f7a4_39 : decode cJ6_bitCount_0f7a4 39 = .ok (.iadd, 1) := by decide +kernel
theorem dJ6_bitCount_0f7a4_40 : decode cJ6_bitCount_0f7a4 40 = .ok (.istore_n 0, 1) := by decide +kernel
theorem dJ6_bitCount_0f7a4_41 : decode cJ6_bitCount_0f7a4 41 = .ok (.iload_n 0, 1) := by decide +kernel
theorem dJ6_bitCount_0f7a4_42 : decode cJ6_bitCount_0f7a4 42 = .ok (.iload_n 0, 1) := by decide +kernel
theorem dJ6_bitCount_0f7a4_43 : decode cJ6_bitCount_0f7a4 43 = .ok (.bipush 16, 2) := by decide +kernel
theorem dJ6_bitCount_0f7a4_45 : decode cJ6_bitCount_0f7a4 45 = .ok (.iushr, 1) := by decide +kernel
theorem dJ6_bitCount_0f7a4_46 : decode cJ6_bitCount_0f7a4 46 = .ok (.iadd, 1) := by decide +kernel
theorem dJ6_bitCount_0f7a4_47 : decode cJ6_bitCount_0f7a4 47 = .ok (.istore_n 0, 1) := by decide +kernel
theorem dJ6_bitCount_0f7a4_48 : decode cJ6_bitCount_0f7a4 48 = .ok (.iload_n 0, 1) := by decide +kernel
theorem dJ6_bitCount_0f7a4_49 : decode cJ6_bitCount_0f7a4 49 = .ok (.bipush 63, 2) := by decide +kernel
theorem dJ6_bitCount_0f7a4_51 : decode cJ6_bitCount_0f7a4 51 = .ok (.iand, 1) := by decide +kernel
theorem dJ6_bitCount_0f7a4_52 : decode cJ6_bitCount_0f7a4 52 = .ok (.ireturn, 1) := by decide +kernel
theorem dJ9_max_7cf53_0 : decode cJ9_max_7cf53 0 = .ok (.iload_n 0, 1) := by decide +kernel
theorem dJ9_max_7cf53_1 : decode cJ9_max_7cf53 1 = .ok (.iload_n 1, 1) := by decide +kernel
theorem dJ9_max_7cf53_2 : decode cJ9_max_7cf53 2 = .ok (.if_icmp .lt 7, 3) := by decide +kernel
theorem dJ9_max_7cf53_5 : decode cJ9_max_7cf53 5 = .ok (.iload_n 0, 1) := by decide +kernel
theorem dJ9_max_7cf53_6 : decode cJ9_max_7cf53 6 = .ok (.goto 4, 3) := by decide +kernel
theorem dJ9_max_7cf53_9 : decode cJ9_max_7cf53 9 = .ok (.iload_n 1, 1) := by decide +kernel
theorem dJ9_max_7cf53_10 : decode cJ9_max_7cf53 10 = .ok (.ireturn, 1) := by decide +kernel
theorem dJ9_min_7cf53_0 : decode cJ9_min_7cf53 0 = .ok (.iload_n 0, 1) := by decide +kernel
theorem dJ9_min_7cf53_1 : decode cJ9_min_7cf53 1 = .ok (.iload_n 1, 1) := by decide +kernel
theorem dJ9_min_7cf53_2 : decode cJ9_min_7cf53 2 = .ok (.if_icmp .gt 7, 3) := by decide +kernel
theorem dJ9_min_7cf53_5 : decode cJ9_min_7cf53 5 = .ok (.iload_n 0, 1) := by decide +kernel
theorem dJ9_min_7cf53_6 : decode cJ9_min_7cf53 6 = .ok (.goto 4, 3) := by decide +kernel
theorem dJ9_min_7cf53_9 : decode cJ9_min_7cf53 9 = .ok (.iload_n 1, 1) := by decide +kernel
theorem dJ9_min_7cf53_10 : decode cJ9_min_7cf53 10 = .ok (.ireturn, 1) := by decide +kernel
theorem dJ0_length_8abf5_0 : decode cJ0_length_8abf5 0 = .ok (.aload_n 0, 1) := by decide +kernel
theorem dJ0_length_8abf5_1 : decode cJ0_length_8abf5 1 = .ok (.getfield 9, 3) := by decide +kernel
theorem dJ0_length_8abf5_4 : decode cJ0_length_8abf5 4 = .ok (.arraylength, 1) := by decide +kernel
theorem dJ0_length_8abf5_5 : decode cJ0_length_8abf5 5 = .ok (.aload_n 0, 1) := by decide +kernel
theorem dJ0_length_8abf5_6 : decode cJ0_length_8abf5 6 = .ok (.invokevirtual 335, 3) := by decide +kernel
theorem dJ0_length_8abf5_9 : decode cJ0_length_8abf5 9 = .ok (.ishr, 1) := by decide +kernel
theorem dJ0_length_8abf5_10 : decode cJ0_length_8abf5 10 = .ok (.ireturn, 1) := by decide +kernel
theorem dJ0_indexOf_0f7a4_0 : decode cJ0_indexOf_0f7a4 0 = .ok (.aload_n 0, 1) := by decide +kernel
theorem dJ0_indexOf_0f7a4_1 : decode cJ0_indexOf_0f7a4 1 = .ok (.iload_n 1, 1) := by decide +kernel
theorem dJ0_indexOf_0f7a4_2 : decode cJ0_indexOf_0f7a4 2 = .ok (.iconst 0, 1) := by decide +kernel
theorem dJ0_indexOf_0f7a4_3 : decode cJ0_indexOf_0f7a4 3 = .ok (.invokevirtual 633, 3) := by decide +kernel
theorem dJ0_indexOf_0f7a4_6 : decode cJ0_indexOf_0f7a4 6 = .ok (.ireturn, 1) := by decide +kernel
theorem dJ0_indexOf_7cf53_0 : decode cJ0_indexOf_7cf53 0 = .ok (.aload_n 0, 1) := by decide +kernel
theorem dJ0_indexOf_7cf53_1 : decode cJ0_indexOf_7cf53 1 = .ok (.invokevirtual 492, 3) := by decide +kernel
theorem dJ0_indexOf_7cf53_4 : decode cJ0_indexOf_7cf53 4 = .ok (.ifCond .eq 19, 3) := by decide +kernel
theorem dJ0_indexOf_7cf53_7 : decode cJ0_indexOf_7cf53 7 = .ok (.aload_n 0, 1) := by decide +kernel
theorem dJ0_indexOf_7cf53_8 : decode cJ0_indexOf_7cf53 8 = .ok (.getfield 9, 3) := by decide +kernel
theorem dJ0_indexOf_7cf53_11 : decode cJ0_indexOf_7cf53 11 = .ok (.iload_n 1, 1) := by decide +kernel
theorem dJ0_indexOf_7cf53_12 : decode cJ0_indexOf_7cf53 12 = .ok (.iload_n 2, 1) := by decide +kernel
theorem dJ0_indexOf_7cf53_13 : decode cJ0_indexOf_7cf53 13 = .ok (.aload_n 0, 1) := by decide +kernel
theorem dJ0_indexOf_7cf53_14 : decode cJ0_indexOf_7cf53 14 = .ok (.invokevirtual 505, 3) := by decide +kernel
theorem dJ0_indexOf_7cf53_17 : decode cJ0_indexOf_7cf53 17 = .ok (.invokestatic 637, 3) := by decide +kernel
theorem dJ0_indexOf_7cf53_20 : decode cJ0_indexOf_7cf53 20 = .ok (.goto 16, 3) := by decide +kernel
theorem dJ0_indexOf_7cf53_23 : decode cJ0_indexOf_7cf53 23 = .ok (.aload_n 0, 1) := by decide +kernel
theorem dJ0_indexOf_7cf53_24 : decode cJ0_indexOf_7cf53 24 = .ok (.getfield 9, 3) := by decide +kernel
theorem dJ0_indexOf_7cf53_27 : decode cJ0_indexOf_7cf53 27 = .ok (.iload_n 1, 1) := by decide +kernel
theorem dJ0_indexOf_7cf53_28 : decode cJ0_indexOf_7cf53 28 = .ok (.iload_n 2, 1) := by decide +kernel
theorem dJ0_indexOf_7cf53_29 : decode cJ0_indexOf_7cf53 29 = .ok (.aload_n 0, 1) := by decide +kernel
theorem dJ0_indexOf_7cf53_30 : decode cJ0_indexOf_7cf53 30 = .ok (.invokevirtual 505, 3) := by decide +kernel
theorem dJ0_indexOf_7cf53_33 : decode cJ0_indexOf_7cf53 33 = .ok (.invokestatic 640, 3) := by decide +kernel
theorem dJ0_indexOf_7cf53_36 : decode cJ0_indexOf_7cf53 36 = .ok (.ireturn, 1) := by decide +kernel
theorem dJ0_coder_7d493_0 : decode cJ0_coder_7d493 0 = .ok (.getstatic 38, 3) := by decide +kernel
theorem dJ0_coder_7d493_3 : decode cJ0_coder_7d493 3 = .ok (.ifCond .eq 10, 3) := by decide +kernel
theorem dJ0_coder_7d493_6 : decode cJ0_coder_7d493 6 = .ok (.aload_n 0, 1) := by decide +kernel
theorem dJ0_coder_7d493_7 : decode cJ0_coder_7d493 7 = .ok (.getfield 15, 3) := by decide +kernel
theorem dJ0_coder_7d493_10 : decode cJ0_coder_7d493 10 = .ok (.goto 4, 3) := by decide +kernel
theorem dJ0_coder_7d493_13 : decode cJ0_coder_7d493 13 = .ok (.iconst 1, 1) := by decide +kernel
theorem dJ0_coder_7d493_14 : decode cJ0_coder_7d493 14 = .ok (.ireturn, 1) := by decide +kernel
theorem dJ0_isLatin1_aae02_0 : decode cJ0_isLatin1_aae02 0 = .ok (.getstatic 38, 3) := by decide +kernel
theorem dJ0_isLatin1_aae02_3 : decode cJ0_isLatin1_aae02 3 = .ok (.ifCond .eq 14, 3) := by decide +kernel
theorem dJ0_isLatin1_aae02_6 : decode cJ0_isLatin1_aae02 6 = .ok (.aload_n 0, 1) := by decide +kernel
theorem dJ0_isLatin1_aae02_7 : decode cJ0_isLatin1_aae02 7 = .ok (.getfield 15, 3) := by decide +kernel
theorem dJ0_isLatin1_aae02_10 : decode cJ0_isLatin1_aae02 10 = .ok (.ifCond .ne 7, 3) := by decide +kernel
theorem dJ0_isLatin1_aae02_13 : decode cJ0_isLatin1_aae02 13 = .ok (.iconst 1, 1) := by decide +kernel
theorem dJ0_isLatin1_aae02_14 : decode cJ0_isLatin1_aae02 14 = .ok (.goto 4, 3) := by decide +kernel
theorem dJ0_isLatin1_aae02_17 : decode cJ0_isLatin1_aae02 17 = .ok (.iconst 0, 1) := by decide +kernel
theorem dJ0_isLatin1_aae02_18 : decode cJ0_isLatin1_aae02 18 = .ok (.ireturn, 1) := by decide +kernel
theorem dJ0_checkBoundsBeginEnd_23922_0 : decode cJ0_checkBoundsBeginEnd_23922 0 = .ok (.iload_n 0, 1) := by decide +kernel
theorem dJ0_checkBoundsBeginEnd_23922_1 : decode cJ0_checkBoundsBeginEnd_23922 1 = .ok (.iload_n 1, 1) := by decide +kernel
theorem dJ0_checkBoundsBeginEnd_23922_2 : decode cJ0_checkBoundsBeginEnd_23922 2 = .ok (.iload_n 2, 1) := by decide +kernel
theorem dJ0_checkBoundsBeginEnd_23922_3 : decode cJ0_checkBoundsBeginEnd_23922 3 = .ok (.getstatic 1053, 3) := by decide +kernel
theorem dJ0_checkBoundsBeginEnd_23922_6 : decode cJ0_checkBoundsBeginEnd_23922 6 = .ok (.invokestatic 1062, 3) := by decide +kernel
theorem dJ0_checkBoundsBeginEnd_23922_9 : decode cJ0_checkBoundsBeginEnd_23922 9 = .ok (.pop, 1) := by decide +kernel
theorem dJ0_checkBoundsBeginEnd_23922_10 : decode cJ0_checkBoundsBeginEnd_23922 10 = .ok (.return_, 1) := by decide +kernel
theorem dJ1_canEncode_9a6ad_0 : decode cJ1_canEncode_9a6ad 0 = .ok (.iload_n 0, 1) := by decide +kernel
theorem dJ1_canEncode_9a6ad_1 : decode cJ1_canEncode_9a6ad 1 = .ok (.ifCond .lt 14, 3) := by decide +kernel
theorem dJ1_canEncode_9a6ad_4 : decode cJ1_canEncode_9a6ad 4 = .ok (.iload_n 0, 1) := by decide +kernel
theorem dJ1_canEncode_9a6ad_5 : decode cJ1_canEncode_9a6ad 5 = .ok (.sipush 255, 3) := by decide +kernel
theorem dJ1_canEncode_9a6ad_8 : decode cJ1_canEncode_9a6ad 8 = .ok (.if_icmp .gt 7, 3) := by decide +kernel
theorem dJ1_canEncode_9a6ad_11 : decode cJ1_canEncode_9a6ad 11 = .ok (.iconst 1, 1) := by decide +kernel
theorem dJ1_canEncode_9a6ad_12 : decode cJ1_canEncode_9a6ad 12 = .ok (.goto 4, 3) := by decide +kernel
theorem dJ1_canEncode_9a6ad_15 : decode cJ1_canEncode_9a6ad 15 = .ok (.iconst 0, 1) := by decide +kernel
theorem dJ1_canEncode_9a6ad_16 : decode cJ1_canEncode_9a6ad 16 = .ok (.ireturn, 1) := by decide +kernel
theorem dJ1_indexOf_4cfef_0 : decode cJ1_indexOf_4cfef 0 = .ok (.iload_n 1, 1) := by decide +kernel
theorem dJ1_indexOf_4cfef_1 : decode cJ1_indexOf_4cfef 1 = .ok (.invokestatic 88, 3) := by decide +kernel
theorem dJ1_indexOf_4cfef_4 : decode cJ1_indexOf_4cfef 4 = .ok (.ifCond .ne 5, 3) := by decide +kernel
theorem dJ1_indexOf_4cfef_7 : decode cJ1_indexOf_4cfef 7 = .ok (.iconst (-1), 1) := by decide +kernel
theorem dJ1_indexOf_4cfef_8 : decode cJ1_indexOf_4cfef 8 = .ok (.ireturn, 1) := by decide +kernel
theorem dJ1_indexOf_4cfef_9 : decode cJ1_indexOf_4cfef 9 = .ok (.iload_n 2, 1) := by decide +kernel
theorem dJ1_indexOf_4cfef_10 : decode cJ1_indexOf_4cfef 10 = .ok (.iconst 0, 1) := by decide +kernel
theorem dJ1_indexOf_4cfef_11 : decode cJ1_indexOf_4cfef 11 = .ok (.invokestatic 92, 3) := by decide +kernel
theorem dJ1_indexOf_4cfef_14 : decode cJ1_indexOf_4cfef 14 = .ok (.istore_n 2, 1) := by decide +kernel
theorem dJ1_indexOf_4cfef_15 : decode cJ1_indexOf_4cfef 15 = .ok (.iload_n 3, 1) := by decide +kernel
theorem dJ1_indexOf_4cfef_16 : decode cJ1_indexOf_4cfef 16 = .ok (.aload_n 0, 1) := by decide +kernel
theorem dJ1_indexOf_4cfef_17 : decode cJ1_indexOf_4cfef 17 = .ok (.arraylength, 1) := by decide +kernel
theorem dJ1_indexOf_4cfef_18 : decode cJ1_indexOf_4cfef 18 = .ok (.invokestatic 38, 3) := by decide +kernel
theorem dJ1_indexOf_4cfef_21 : decode cJ1_indexOf_4cfef 21 = .ok (.istore_n 3, 1) := by decide +kernel
theorem dJ1_indexOf_4cfef_22 : decode cJ1_indexOf_4cfef 22 = .ok (.iload_n 2, 1) := by decide +kernel
theorem dJ1_indexOf_4cfef_23 : decode cJ1_indexOf_4cfef 23 = .ok (.iload_n 3, 1) := by decide +kernel
theorem dJ1_indexOf_4cfef_24 : decode cJ1_indexOf_4cfef 24 = .ok (.if_icmp .lt 5, 3) := by decide +kernel
theorem dJ1_indexOf_4cfef_27 : decode cJ1_indexOf_4cfef 27 = .ok (.iconst (-1), 1) := by decide +kernel
theorem dJ1_indexOf_4cfef_28 : decode cJ1_indexOf_4cfef 28 = .ok (.ireturn, 1) := by decide +kernel
theorem dJ1_indexOf_4cfef_29 : decode cJ1_indexOf_4cfef 29 = .ok (.aload_n 0, 1) := by decide +kernel
theorem dJ1_indexOf_4cfef_30 : decode cJ1_indexOf_4cfef 30 = .ok (.iload_n 1, 1) := by decide +kernel
theorem dJ1_indexOf_4cfef_31 : decode cJ1_indexOf_4cfef 31 = .ok (.iload_n 2, 1) := by decide +kernel
theorem dJ1_indexOf_4cfef_32 : decode cJ1_indexOf_4cfef 32 = .ok (.iload_n 3, 1) := by decide +kernel
theorem dJ1_indexOf_4cfef_33 : decode cJ1_indexOf_4cfef 33 = .ok (.invokestatic 95, 3) := by decide +kernel
theorem dJ1_indexOf_4cfef_36 : decode cJ1_indexOf_4cfef 36 = .ok (.ireturn, 1) := by decide +kernel
theorem dJ1_indexOfChar_4cfef_0 : decode cJ1_indexOfChar_4cfef 0 = .ok (.iload_n 1, 1) := by decide +kernel
theorem dJ1_indexOfChar_4cfef_1 : decode cJ1_indexOfChar_4cfef 1 = .ok (.i2b, 1) := by decide +kernel
theorem dJ1_indexOfChar_4cfef_2 : decode cJ1_indexOfChar_4cfef 2 = .ok (.istore 4, 2) := by decide +kernel
theorem dJ1_indexOfChar_4cfef_4 : decode cJ1_indexOfChar_4cfef 4 = .ok (.iload_n 2, 1) := by decide +kernel
theorem dJ1_indexOfChar_4cfef_5 : decode cJ1_indexOfChar_4cfef 5 = .ok (.istore 5, 2) := by decide +kernel
theorem dJ1_indexOfChar_4cfef_7 : decode cJ1_indexOfChar_4cfef 7 = .ok (.iload 5, 2) := by decide +kernel
theorem dJ1_indexOfChar_4cfef_9 : decode cJ1_indexOfChar_4cfef 9 = .ok (.iload_n 3, 1) := by decide +kernel
theorem dJ1_indexOfChar_4cfef_10 : decode cJ1_indexOfChar_4cfef 10 = .ok (.if_icmp .ge 21, 3) := by decide +kernel
theorem dJ1_indexOfChar_4cfef_13 : decode cJ1_indexOfChar_4cfef 13 = .ok (.aload_n 0, 1) := by decide +kernel
theorem dJ1_indexOfChar_4cfef_14 : decode cJ1_indexOfChar_4cfef 14 = .ok (.iload 5, 2) := by decide +kernel
theorem dJ1_indexOfChar_4cfef_16 : decode cJ1_indexOfChar_4cfef 16 = .ok (.baload, 1) := by decide +kernel
theorem dJ1_indexOfChar_4cfef_17 : decode cJ1_indexOfChar_4cfef 17 = .ok (.iload 4, 2) := by decide +kernel
theorem dJ1_indexOfChar_4cfef_19 : decode cJ1_indexOfChar_4cfef 19 = .ok (.if_icmp .ne 6, 3) := by decide +kernel
theorem dJ1_indexOfChar_4cfef_22 : decode cJ1_indexOfChar_4cfef 22 = .ok (.iload 5, 2) := by decide +kernel
theorem dJ1_indexOfChar_4cfef_24 : decode cJ1_indexOfChar_4cfef 24 = .ok (.ireturn, 1) := by decide +kernel
theorem dJ1_indexOfChar_4cfef_25 : decode cJ1_indexOfChar_4cfef 25 = .ok (.iinc 5 1, 3) := by decide +kernel
theorem dJ1_indexOfChar_4cfef_28 : decode cJ1_indexOfChar_4cfef 28 = .ok (.goto (-21), 3) := by decide +kernel
theorem dJ1_indexOfChar_4cfef_31 : decode cJ1_indexOfChar_4cfef 31 = .ok (.iconst (-1), 1) := by decide +kernel
theorem dJ1_indexOfChar_4cfef_32 : decode cJ1_indexOfChar_4cfef 32 = .ok (.ireturn, 1) := by decide +kernel
theorem dJ2_getChar_3b067_0 : decode cJ2_getChar_3b067 0 = .ok (.getstatic 44, 3) := by decide +kernel
theorem dJ2_getChar_3b067_3 : decode cJ2_getChar_3b067 3 = .ok (.ifCond .ne 25, 3) := by decide +kernel
theorem dJ2_getChar_3b067_6 : decode cJ2_getChar_3b067 6 = .ok (.iload_n 1, 1) := by decide +kernel
theorem dJ2_getChar_3b067_7 : decode cJ2_getChar_3b067 7 = .ok (.ifCond .lt 11, 3) := by decide +kernel
theorem dJ2_getChar_3b067_10 : decode cJ2_getChar_3b067 10 = .ok (.iload_n 1, 1) := by decide +kernel
theorem dJ2_getChar_3b067_11 : decode cJ2_getChar_3b067 11 = .ok (.aload_n 0, 1) := by decide +kernel
theorem dJ2_getChar_3b067_12 : decode cJ2_getChar_3b067 12 = .ok (.invokestatic 48, 3) := by decide +kernel
theorem dJ2_getChar_3b067_15 : decode cJ2_getChar_3b067 15 = .ok (.if_icmp .lt 13, 3) := by decide +kernel
theorem dJ2_getChar_3b067_18 : decode cJ2_getChar_3b067 18 = .ok (.new 52, 3) := by decide +kernel
theorem dJ2_getChar_3b067_21 : decode cJ2_getChar_3b067 21 = .ok (.dup, 1) := by decide +kernel
theorem dJ2_getChar_3b067_22 : decode cJ2_getChar_3b067 22 = .ok (.ldc 54, 2) := by decide +kernel
theorem dJ2_getChar_3b067_24 : decode cJ2_getChar_3b067 24 = .ok (.invokespecial 56, 3) := by decide +kernel
theorem dJ2_getChar_3b067_27 : decode cJ2_getChar_3b067 27 = .ok (.athrow, 1) := by decide +kernel
theorem dJ2_getChar_3b067_28 : decode cJ2_getChar_3b067 28 = .ok (.iload_n 1, 1) := by decide +kernel
theorem dJ2_getChar_3b067_29 : decode cJ2_getChar_3b067 29 = .ok (.iconst 1, 1) := by decide +kernel
theorem dJ2_getChar_3b067_30 : decode cJ2_getChar_3b067 30 = .ok (.ishl, 1) := by decide +kernel
theorem dJ2_getChar_3b067_31 : decode cJ2_getChar_3b067 31 = .ok (.istore_n 1, 1) := by decide +kernel
theorem dJ2_getChar_3b067_32 : decode cJ2_getChar_3b067 32 = .ok (.aload_n 0, 1) := by decide +kernel
theorem dJ2_getChar_3b067_33 : decode cJ2_getChar_3b067 33 = .ok (.iload_n 1, 1) := by decide +kernel
theorem dJ2_getChar_3b067_34 : decode cJ2_getChar_3b067 34 = .ok (.iinc 1 1, 3) := by decide +kernel
theorem dJ2_getChar_3b067_37 : decode cJ2_getChar_3b067 37 = .ok (.baload, 1) := by decide +kernel
theorem dJ2_getChar_3b067_38 : decode cJ2_getChar_3b067 38 = .ok (.sipush 255, 3) := by decide +kernel
theorem dJ2_getChar_3b067_41 : decode cJ2_getChar_3b067 41 = .ok (.iand, 1) := by decide +kernel
theorem dJ2_getChar_3b067_42 : decode cJ2_getChar_3b067 42 = .ok (.getstatic 59, 3) := by decide +kernel
theorem dJ2_getChar_3b067_45 : decode cJ2_getChar_3b067 45 = .ok (.ishl, 1) := by decide +kernel
theorem dJ2_getChar_3b067_46 : decode cJ2_getChar_3b067 46 = .ok (.aload_n 0, 1) := by decide +kernel
theorem dJ2_getChar_3b067_47 : decode cJ2_getChar_3b067 47 = .ok (.iload_n 1, 1) := by decide +kernel
theorem dJ2_getChar_3b067_48 : decode cJ2_getChar_3b067 48 = .ok (.baload, 1) := by decide +kernel
theorem dJ2_getChar_3b067_49 : decode cJ2_getChar_3b067 49 = .ok (.sipush 255, 3) := by decide +kernel
theorem dJ2_getChar_3b067_52 : decode cJ2_getChar_3b067 52 = .ok (.iand, 1) := by decide +kernel
theorem dJ2_getChar_3b067_53 : decode cJ2_getChar_3b067 53 = .ok (.getstatic 63, 3) := by decide +kernel
theorem dJ2_getChar_3b067_56 : decode cJ2_getChar_3b067 56 = .ok (.ishl, 1) := by decide +kernel
theorem dJ2_getChar_3b067_57 : decode cJ2_getChar_3b067 57 = .ok (.ior, 1) := by decide +kernel
theorem dJ2_getChar_3b067_58 : decode cJ2_getChar_3b067 58 = .ok (.i2c, 1) := by decide +kernel
theorem dJ2_getChar_3b067_59 : decode cJ2_getChar_3b067 59 = .ok (.ireturn, 1) := by decide +kernel
theorem dJ2_length_9d52b_0 : decode cJ2_length_9d52b 0 = .ok (.aload_n 0, 1) := by decide +kernel
theorem dJ2_length_9d52b_1 : decode cJ2_length_9d52b 1 = .ok (.arraylength, 1) := by decide +kernel
theorem dJ2_length_9d52b_2 : decode cJ2_length_9d52b 2 = .ok (.iconst 1, 1) := by decide +kernel
theorem dJ2_length_9d52b_3 : decode cJ2_length_9d52b 3 = .ok (.ishr, 1) := by decide +kernel
theorem dJ2_length_9d52b_4 : decode cJ2_length_9d52b 4 = .ok (.ireturn, 1) := by decide +kernel
theorem dJ2_indexOf_4cfef_0 : decode cJ2_indexOf_4cfef 0 = .ok (.iload_n 2, 1) := by decide +kernel
theorem dJ2_indexOf_4cfef_1 : decode cJ2_indexOf_4cfef 1 = .ok (.iconst 0, 1) := by decide +kernel
theorem dJ2_indexOf_4cfef_2 : decode cJ2_indexOf_4cfef 2 = .ok (.invokestatic 224, 3) := by decide +kernel
theorem dJ2_indexOf_4cfef_5 : decode cJ2_indexOf_4cfef 5 = .ok (.istore_n 2, 1) := by decide +kernel
theorem dJ2_indexOf_4cfef_6 : decode cJ2_indexOf_4cfef 6 = .ok (.iload_n 3, 1) := by decide +kernel
theorem dJ2_indexOf_4cfef_7 : decode cJ2_indexOf_4cfef 7 = .ok (.aload_n 0, 1) := by decide +kernel
theorem dJ2_indexOf_4cfef_8 : decode cJ2_indexOf_4cfef 8 = .ok (.arraylength, 1) := by decide +kernel
theorem dJ2_indexOf_4cfef_9 : decode cJ2_indexOf_4cfef 9 = .ok (.iconst 1, 1) := by decide +kernel
theorem dJ2_indexOf_4cfef_10 : decode cJ2_indexOf_4cfef 10 = .ok (.ishr, 1) := by decide +kernel
theorem dJ2_indexOf_4cfef_11 : decode cJ2_indexOf_4cfef 11 = .ok (.invokestatic 183, 3) := by decide +kernel
theorem dJ2_indexOf_4cfef_14 : decode cJ2_indexOf_4cfef 14 = .ok (.istore_n 3, 1) := by decide +kernel
theorem dJ2_indexOf_4cfef_15 : decode cJ2_indexOf_4cfef 15 = .ok (.iload_n 2, 1) := by decide +kernel
theorem dJ2_indexOf_4cfef_16 : decode cJ2_indexOf_4cfef 16 = .ok (.iload_n 3, 1) := by decide +kernel
theorem dJ2_indexOf_4cfef_17 : decode cJ2_indexOf_4cfef 17 = .ok (.if_icmp .lt 5, 3) := by decide +kernel
theorem dJ2_indexOf_4cfef_20 : decode cJ2_indexOf_4cfef 20 = .ok (.iconst (-1), 1) := by decide +kernel
theorem dJ2_indexOf_4cfef_21 : decode cJ2_indexOf_4cfef 21 = .ok (.ireturn, 1) := by decide +kernel
theorem dJ2_indexOf_4cfef_22 : decode cJ2_indexOf_4cfef 22 = .ok (.iload_n 1, 1) := by decide +kernel
theorem dJ2_indexOf_4cfef_23 : decode cJ2_indexOf_4cfef 23 = .ok (.ldc 227, 2) := by decide +kernel
theorem dJ2_indexOf_4cfef_25 : decode cJ2_indexOf_4cfef 25 = .ok (.if_icmp .ge 11, 3) := by decide +kernel
theorem dJ2_indexOf_4cfef_28 : decode cJ2_indexOf_4cfef 28 = .ok (.aload_n 0, 1) := by decide +kernel
theorem dJ2_indexOf_4cfef_29 : decode cJ2_indexOf_4cfef 29 = .ok (.iload_n 1, 1) := by decide +kernel
theorem dJ2_indexOf_4cfef_30 : decode cJ2_indexOf_4cfef 30 = .ok (.iload_n 2, 1) := by decide +kernel
theorem dJ2_indexOf_4cfef_31 : decode cJ2_indexOf_4cfef 31 = .ok (.iload_n 3, 1) := by decide +kernel
theorem dJ2_indexOf_4cfef_32 : decode cJ2_indexOf_4cfef 32 = .ok (.invokestatic 228, 3) := by decide +kernel
theorem dJ2_indexOf_4cfef_35 : decode cJ2_indexOf_4cfef 35 = .ok (.ireturn, 1) := by decide +kernel
theorem dJ2_indexOf_4cfef_36 : decode cJ2_indexOf_4cfef 36 = .ok (.aload_n 0, 1) := by decide +kernel
theorem dJ2_indexOf_4cfef_37 : decode cJ2_indexOf_4cfef 37 = .ok (.iload_n 1, 1) := by decide +kernel
theorem dJ2_indexOf_4cfef_38 : decode cJ2_indexOf_4cfef 38 = .ok (.iload_n 2, 1) := by decide +kernel
theorem dJ2_indexOf_4cfef_39 : decode cJ2_indexOf_4cfef 39 = .ok (.iload_n 3, 1) := by decide +kernel
theorem dJ2_indexOf_4cfef_40 : decode cJ2_indexOf_4cfef 40 = .ok (.invokestatic 232, 3) := by decide +kernel
theorem dJ2_indexOf_4cfef_43 : decode cJ2_indexOf_4cfef 43 = .ok (.ireturn, 1) := by decide +kernel
theorem dJ2_indexOfChar_4cfef_0 : decode cJ2_indexOfChar_4cfef 0 = .ok (.iload_n 2, 1) := by decide +kernel
theorem dJ2_indexOfChar_4cfef_1 : decode cJ2_indexOfChar_4cfef 1 = .ok (.iload_n 3, 1) := by decide +kernel
theorem dJ2_indexOfChar_4cfef_2 : decode cJ2_indexOfChar_4cfef 2 = .ok (.aload_n 0, 1) := by decide +kernel
theorem dJ2_indexOfChar_4cfef_3 : decode cJ2_indexOfChar_4cfef 3 = .ok (.invokestatic 96, 3) := by decide +kernel
theorem dJ2_indexOfChar_4cfef_6 : decode cJ2_indexOfChar_4cfef 6 = .ok (.aload_n 0, 1) := by decide +kernel
theorem dJ2_indexOfChar_4cfef_7 : decode cJ2_indexOfChar_4cfef 7 = .ok (.iload_n 1, 1) := by decide +kernel
theorem dJ2_indexOfChar_4cfef_8 : decode cJ2_indexOfChar_4cfef 8 = .ok (.iload_n 2, 1) := by decide +kernel
theorem dJ2_indexOfChar_4cfef_9 : decode cJ2_indexOfChar_4cfef 9 = .ok (.iload_n 3, 1) := by decide +kernel
theorem dJ2_indexOfChar_4cfef_10 : decode cJ2_indexOfChar_4cfef 10 = .ok (.invokestatic 244, 3) := by decide +kernel
theorem dJ2_indexOfChar_4cfef_13 : decode cJ2_indexOfChar_4cfef 13 = .ok (.ireturn, 1) := by decide +kernel
theorem dJ2_indexOfCharUnsafe_4cfef_0 : decode cJ2_indexOfCharUnsafe_4cfef 0 = .ok (.iload_n 2, 1) := by decide +kernel
theorem dJ2_indexOfCharUnsafe_4cfef_1 : decode cJ2_indexOfCharUnsafe_4cfef 1 = .ok (.istore 4, 2) := by decide +kernel
theorem dJ2_indexOfCharUnsafe_4cfef_3 : decode cJ2_indexOfCharUnsafe_4cfef 3 = .ok (.iload 4, 2) := by decide +kernel
theorem dJ2_indexOfCharUnsafe_4cfef_5 : decode cJ2_indexOfCharUnsafe_4cfef 5 = .ok (.iload_n 3, 1) := by decide +kernel
theorem dJ2_indexOfCharUnsafe_4cfef_6 : decode cJ2_indexOfCharUnsafe_4cfef 6 = .ok (.if_icmp .ge 22, 3) := by decide +kernel
theorem dJ2_indexOfCharUnsafe_4cfef_9 : decode cJ2_indexOfCharUnsafe_4cfef 9 = .ok (.aload_n 0, 1) := by decide +kernel
theorem dJ2_indexOfCharUnsafe_4cfef_10 : decode cJ2_indexOfCharUnsafe_4cfef 10 = .ok (.iload 4, 2) := by decide +kernel
theorem dJ2_indexOfCharUnsafe_4cfef_12 : decode cJ2_indexOfCharUnsafe_4cfef 12 = .ok (.invokestatic 71, 3) := by decide +kernel
theorem dJ2_indexOfCharUnsafe_4cfef_15 : decode cJ2_indexOfCharUnsafe_4cfef 15 = .ok (.iload_n 1, 1) := by decide +kernel
theorem dJ2_indexOfCharUnsafe_4cfef_16 : decode cJ2_indexOfCharUnsafe_4cfef 16 = .ok (.if_icmp .ne 6, 3) := by decide +kernel
theorem dJ2_indexOfCharUnsafe_4cfef_19 : decode cJ2_indexOfCharUnsafe_4cfef 19 = .ok (.iload 4, 2) := by decide +kernel
theorem dJ2_indexOfCharUnsafe_4cfef_21 : decode cJ2_indexOfCharUnsafe_4cfef 21 = .ok (.ireturn, 1) := by decide +kernel
theorem dJ2_indexOfCharUnsafe_4cfef_22 : decode cJ2_indexOfCharUnsafe_4cfef 22 = .ok (.iinc 4 1, 3) := by decide +kernel
theorem dJ2_indexOfCharUnsafe_4cfef_25 : decode cJ2_indexOfCharUnsafe_4cfef 25 = .ok (.goto (-22), 3) := by decide +kernel
theorem dJ2_indexOfCharUnsafe_4cfef_28 : decode cJ2_indexOfCharUnsafe_4cfef 28 = .ok (.iconst (-1), 1) := by decide +kernel
theorem dJ2_indexOfCharUnsafe_4cfef_29 : decode cJ2_indexOfCharUnsafe_4cfef 29 = .ok (.ireturn, 1) := by decide +kernel
theorem dJ2_indexOfSupplementary_4cfef_0 : decode cJ2_indexOfSupplementary_4cfef 0 = .ok (.iload_n 1, 1) := by decide +kernel
theorem dJ2_indexOfSupplementary_4cfef_1 : decode cJ2_indexOfSupplementary_4cfef 1 = .ok (.invokestatic 164, 3) := by decide +kernel
theorem dJ2_indexOfSupplementary_4cfef_4 : decode cJ2_indexOfSupplementary_4cfef 4 = .ok (.ifCond .eq 65, 3) := by decide +kernel
theorem dJ2_indexOfSupplementary_4cfef_7 : decode cJ2_indexOfSupplementary_4cfef 7 = .ok (.iload_n 1, 1) := by decide +kernel
theorem dJ2_indexOfSupplementary_4cfef_8 : decode cJ2_indexOfSupplementary_4cfef 8 = .ok (.invokestatic 157, 3) := by decide +kernel
theorem dJ2_indexOfSupplementary_4cfef_11 : decode cJ2_indexOfSupplementary_4cfef 11 = .ok (.istore 4, 2) := by decide +kernel
theorem dJ2_indexOfSupplementary_4cfef_13 : decode cJ2_indexOfSupplementary_4cfef 13 = .ok (.iload_n 1, 1) := by decide +kernel
theorem dJ2_indexOfSupplementary_4cfef_14 : decode cJ2_indexOfSupplementary_4cfef 14 = .ok (.invokestatic 161, 3) := by decide +kernel
theorem dJ2_indexOfSupplementary_4cfef_17 : decode cJ2_indexOfSupplementary_4cfef 17 = .ok (.istore 5, 2) := by decide +kernel
theorem dJ2_indexOfSupplementary_4cfef_19 : decode cJ2_indexOfSupplementary_4cfef 19 = .ok (.iload_n 2, 1) := by decide +kernel
theorem dJ2_indexOfSupplementary_4cfef_20 : decode cJ2_indexOfSupplementary_4cfef 20 = .ok (.iload_n 3, 1) := by decide +kernel
theorem dJ2_indexOfSupplementary_4cfef_21 : decode cJ2_indexOfSupplementary_4cfef 21 = .ok (.aload_n 0, 1) := by decide +kernel
theorem dJ2_indexOfSupplementary_4cfef_22 : decode cJ2_indexOfSupplementary_4cfef 22 = .ok (.invokestatic 96, 3) := by decide +kernel
theorem dJ2_indexOfSupplementary_4cfef_25 : decode cJ2_indexOfSupplementary_4cfef 25 = .ok (.iload_n 2, 1) := by decide +kernel
theorem dJ2_indexOfSupplementary_4cfef_26 : decode cJ2_indexOfSupplementary_4cfef 26 = .ok (.istore 6, 2) := by decide +kernel
theorem dJ2_indexOfSupplementary_4cfef_28 : decode cJ2_indexOfSupplementary_4cfef 28 = .ok (.iload 6, 2) := by decide +kernel
theorem dJ2_indexOfSupplementary_4cfef_30 : decode cJ2_indexOfSupplementary_4cfef 30 = .ok (.iload_n 3, 1) := by decide +kernel
theorem dJ2_indexOfSupplementary_4cfef_31 : decode cJ2_indexOfSupplementary_4cfef 31 = .ok (.iconst 1, 1) := by decide +kernel
theorem dJ2_indexOfSupplementary_4cfef_32 : decode cJ2_indexOfSupplementary_4cfef 32 = .ok (.isub, 1) := by decide +kernel
theorem dJ2_indexOfSupplementary_4cfef_33 : decode cJ2_indexOfSupplementary_4cfef 33 = .ok (.if_icmp .ge 36, 3) := by decide +kernel
theorem dJ2_indexOfSupplementary_4cfef_36 : decode cJ2_indexOfSupplementary_4cfef 36 = .ok (.aload_n 0, 1) := by decide +kernel
theorem dJ2_indexOfSupplementary_4cfef_37 : decode cJ2_indexOfSupplementary_4cfef 37 = .ok (.iload 6, 2) := by decide +kernel
theorem dJ2_indexOfSupplementary_4cfef_39 : decode cJ2_indexOfSupplementary_4cfef 39 = .ok (.invokestatic 71, 3) := by decide +kernel
theorem dJ2_indexOfSupplementary_4cfef_42 : decode cJ2_indexOfSupplementary_4cfef 42 = .ok (.iload 4, 2) := by decide +kernel
theorem dJ2_indexOfSupplementary_4cfef_44 : decode cJ2_indexOfSupplementary_4cfef 44 = .ok (.if_icmp .ne 19, 3) := by decide +kernel
theorem dJ2_indexOfSupplementary_4cfef_47 : decode cJ2_indexOfSupplementary_4cfef 47 = .ok (.aload_n 0, 1) := by decide +kernel
theorem dJ2_indexOfSupplementary_4cfef_48 : decode cJ2_indexOfSupplementary_4cfef 48 = .ok (.iload 6, 2) := by decide +kernel
theorem dJ2_indexOfSupplementary_4cfef_50 : decode cJ2_indexOfSupplementary_4cfef 50 = .ok (.iconst 1, 1) := by decide +kernel
theorem dJ2_indexOfSupplementary_4cfef_51 : decode cJ2_indexOfSupplementary_4cfef 51 = .ok (.iadd, 1) := by decide +kernel
theorem dJ2_indexOfSupplementary_4cfef_52 : decode cJ2_indexOfSupplementary_4cfef 52 = .ok (.invokestatic 71, 3) := by decide +kernel
theorem dJ2_indexOfSupplementary_4cfef_55 : decode cJ2_indexOfSupplementary_4cfef 55 = .ok (.iload 5, 2) := by decide +kernel
theorem dJ2_indexOfSupplementary_4cfef_57 : decode cJ2_indexOfSupplementary_4cfef 57 = .ok (.if_icmp .ne 6, 3) := by decide +kernel
theorem dJ2_indexOfSupplementary_4cfef_60 : decode cJ2_indexOfSupplementary_4cfef 60 = .ok (.iload 6, 2) := by decide +kernel
theorem dJ2_indexOfSupplementary_4cfef_62 : decode cJ2_indexOfSupplementary_4cfef 62 = .ok (.ireturn, 1) := by decide +kernel
theorem dJ2_indexOfSupplementary_4cfef_63 : decode cJ2_indexOfSupplementary_4cfef 63 = .ok (.iinc 6 1, 3) := by decide +kernel
theorem dJ2_indexOfSupplementary_4cfef_66 : decode cJ2_indexOfSupplementary_4cfef 66 = .ok (.goto (-38), 3) := by decide +kernel
theorem dJ2_indexOfSupplementary_4cfef_69 : decode cJ2_indexOfSupplementary_4cfef 69 = .ok (.iconst (-1), 1) := by decide +kernel
theorem dJ2_indexOfSupplementary_4cfef_70 : decode cJ2_indexOfSupplementary_4cfef 70 = .ok (.ireturn, 1) := by decide +kernel
theorem dJ2_checkBoundsBeginEnd_d044e_0 : decode cJ2_checkBoundsBeginEnd_d044e 0 = .ok (.iload_n 0, 1) := by decide +kernel
theorem dJ2_checkBoundsBeginEnd_d044e_1 : decode cJ2_checkBoundsBeginEnd_d044e 1 = .ok (.iload_n 1, 1) := by decide +kernel
theorem dJ2_checkBoundsBeginEnd_d044e_2 : decode cJ2_checkBoundsBeginEnd_d044e 2 = .ok (.aload_n 2, 1) := by decide +kernel
theorem dJ2_checkBoundsBeginEnd_d044e_3 : decode cJ2_checkBoundsBeginEnd_d044e 3 = .ok (.invokestatic 48, 3) := by decide +kernel
theorem dJ2_checkBoundsBeginEnd_d044e_6 : decode cJ2_checkBoundsBeginEnd_d044e 6 = .ok (.invokestatic 241, 3) := by decide +kernel
theorem dJ2_checkBoundsBeginEnd_d044e_9 : decode cJ2_checkBoundsBeginEnd_d044e 9 = .ok (.return_, 1) := by decide +kernel
theorem dJ3_checkFromToIndex_8c36e_0 : decode cJ3_checkFromToIndex_8c36e 0 = .ok (.iload_n 0, 1) := by decide +kernel
theorem dJ3_checkFromToIndex_8c36e_1 : decode cJ3_checkFromToIndex_8c36e 1 = .ok (.ifCond .lt 13, 3) := by decide +kernel
theorem dJ3_checkFromToIndex_8c36e_4 : decode cJ3_checkFromToIndex_8c36e 4 = .ok (.iload_n 0, 1) := by decide +kernel
theorem dJ3_checkFromToIndex_8c36e_5 : decode cJ3_checkFromToIndex_8c36e 5 = .ok (.iload_n 1, 1) := by decide +kernel
theorem dJ3_checkFromToIndex_8c36e_6 : decode cJ3_checkFromToIndex_8c36e 6 = .ok (.if_icmp .gt 8, 3) := by decide +kernel
theorem dJ3_checkFromToIndex_8c36e_9 : decode cJ3_checkFromToIndex_8c36e 9 = .ok (.iload_n 1, 1) := by decide +kernel
theorem dJ3_checkFromToIndex_8c36e_10 : decode cJ3_checkFromToIndex_8c36e 10 = .ok (.iload_n 2, 1) := by decide +kernel
theorem dJ3_checkFromToIndex_8c36e_11 : decode cJ3_checkFromToIndex_8c36e 11 = .ok (.if_icmp .le 11, 3) := by decide +kernel
theorem dJ3_checkFromToIndex_8c36e_14 : decode cJ3_checkFromToIndex_8c36e 14 = .ok (.aload_n 3, 1) := by decide +kernel
theorem dJ3_checkFromToIndex_8c36e_15 : decode cJ3_checkFromToIndex_8c36e 15 = .ok (.iload_n 0, 1) := by decide +kernel
theorem dJ3_checkFromToIndex_8c36e_16 : decode cJ3_checkFromToIndex_8c36e 16 = .ok (.iload_n 1, 1) := by decide +kernel
theorem dJ3_checkFromToIndex_8c36e_17 : decode cJ3_checkFromToIndex_8c36e 17 = .ok (.iload_n 2, 1) := by decide +kernel
theorem dJ3_checkFromToIndex_8c36e_18 : decode cJ3_checkFromToIndex_8c36e 18 = .ok (.invokestatic 99, 3) := by decide +kernel
theorem dJ3_checkFromToIndex_8c36e_21 : decode cJ3_checkFromToIndex_8c36e 21 = .ok (.athrow, 1) := by decide +kernel
theorem dJ3_checkFromToIndex_8c36e_22 : decode cJ3_checkFromToIndex_8c36e 22 = .ok (.iload_n 0, 1) := by decide +kernel
theorem dJ3_checkFromToIndex_8c36e_23 : decode cJ3_checkFromToIndex_8c36e 23 = .ok (.ireturn, 1) := by decide +kernel
