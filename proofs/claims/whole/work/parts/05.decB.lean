theorem dX9_init_0 : decode cX9_init 0 = .ok (.aload_n 0, 1) := by decide +kernel
theorem dX9_init_1 : decode cX9_init 1 = .ok (.invokespecial 3, 3) := by decide +kernel
theorem dX9_init_4 : decode cX9_init 4 = .ok (.aload_n 0, 1) := by decide +kernel
theorem dX9_init_5 : decode cX9_init 5 = .ok (.new 9, 3) := by decide +kernel
theorem dX9_init_8 : decode cX9_init 8 = .ok (.dup, 1) := by decide +kernel
theorem dX9_init_9 : decode cX9_init 9 = .ok (.invokespecial 11, 3) := by decide +kernel
theorem dX9_init_12 : decode cX9_init 12 = .ok (.putfield 12, 3) := by decide +kernel
theorem dX9_init_15 : decode cX9_init 15 = .ok (.aload_n 0, 1) := by decide +kernel
theorem dX9_init_16 : decode cX9_init 16 = .ok (.new 9, 3) := by decide +kernel
theorem dX9_init_19 : decode cX9_init 19 = .ok (.dup, 1) := by decide +kernel
theorem dX9_init_20 : decode cX9_init 20 = .ok (.invokespecial 11, 3) := by decide +kernel
theorem dX9_init_23 : decode cX9_init 23 = .ok (.putfield 16, 3) := by decide +kernel
theorem dX9_init_26 : decode cX9_init 26 = .ok (.aload_n 0, 1) := by decide +kernel
theorem dX9_init_27 : decode cX9_init 27 = .ok (.new 9, 3) := by decide +kernel
theorem dX9_init_30 : decode cX9_init 30 = .ok (.dup, 1) := by decide +kernel
theorem dX9_init_31 : decode cX9_init 31 = .ok (.invokespecial 11, 3) := by decide +kernel
theorem dX9_init_34 : decode cX9_init 34 = .ok (.putfield 19, 3) := by decide +kernel
theorem dX9_init_37 : decode cX9_init 37 = .ok (.aload_n 0, 1) := by decide +kernel
theorem dX9_init_38 : decode cX9_init 38 = .ok (.new 22, 3) := by decide +kernel
theorem dX9_init_41 : decode cX9_init 41 = .ok (.dup, 1) := by decide +kernel
theorem dX9_init_42 : decode cX9_init 42 = .ok (.invokespecial 24, 3) := by decide +kernel
theorem dX9_init_45 : decode cX9_init 45 = .ok (.putfield 25, 3) := by decide +kernel
theorem dX9_init_48 : decode cX9_init 48 = .ok (.aload_n 0, 1) := by decide +kernel
theorem dX9_init_49 : decode cX9_init 49 = .ok (.iconst 2, 1) := by decide +kernel
theorem dX9_init_50 : decode cX9_init 50 = .ok (.anewarray 29, 3) := by decide +kernel
theorem dX9_init_53 : decode cX9_init 53 = .ok (.putfield 31, 3) := by decide +kernel
theorem dX9_init_56 : decode cX9_init 56 = .ok (.iconst 0, 1) := by decide +kernel
theorem dX9_init_57 : decode cX9_init 57 = .ok (.istore_n 1, 1) := by decide +kernel
theorem dX9_init_58 : decode cX9_init 58 = .ok (.iload_n 1, 1) := by decide +kernel
theorem dX9_init_59 : decode cX9_init 59 = .ok (.iconst 2, 1) := by decide +kernel
theorem dX9_init_60 : decode cX9_init 60 = .ok (.if_icmp .ge 22, 3) := by decide +kernel
theorem dX9_init_63 : decode cX9_init 63 = .ok (.aload_n 0, 1) := by decide +kernel
theorem dX9_init_64 : decode cX9_init 64 = .ok (.getfield 31, 3) := by decide +kernel
theorem dX9_init_67 : decode cX9_init 67 = .ok (.iload_n 1, 1) := by decide +kernel
theorem dX9_init_68 : decode cX9_init 68 = .ok (.new 29, 3) := by decide +kernel
theorem dX9_init_71 : decode cX9_init 71 = .ok (.dup, 1) := by decide +kernel
theorem dX9_init_72 : decode cX9_init 72 = .ok (.invokespecial 35, 3) := by decide +kernel
theorem dX9_init_75 : decode cX9_init 75 = .ok (.aastore, 1) := by decide +kernel
theorem dX9_init_76 : decode cX9_init 76 = .ok (.iinc 1 1, 3) := by decide +kernel
theorem dX9_init_79 : decode cX9_init 79 = .ok (.goto (-21), 3) := by decide +kernel
theorem dX9_init_82 : decode cX9_init 82 = .ok (.aload_n 0, 1) := by decide +kernel
theorem dX9_init_83 : decode cX9_init 83 = .ok (.new 29, 3) := by decide +kernel
theorem dX9_init_86 : decode cX9_init 86 = .ok (.dup, 1) := by decide +kernel
theorem dX9_init_87 : decode cX9_init 87 = .ok (.invokespecial 35, 3) := by decide +kernel
theorem dX9_init_90 : decode cX9_init 90 = .ok (.putfield 36, 3) := by decide +kernel
theorem dX9_init_93 : decode cX9_init 93 = .ok (.aload_n 0, 1) := by decide +kernel
theorem dX9_init_94 : decode cX9_init 94 = .ok (.new 40, 3) := by decide +kernel
theorem dX9_init_97 : decode cX9_init 97 = .ok (.dup, 1) := by decide +kernel
theorem dX9_init_98 : decode cX9_init 98 = .ok (.aload_n 0, 1) := by decide +kernel
theorem dX9_init_99 : decode cX9_init 99 = .ok (.getfield 25, 3) := by decide +kernel
theorem dX9_init_102 : decode cX9_init 102 = .ok (.aload_n 0, 1) := by decide +kernel
theorem dX9_init_103 : decode cX9_init 103 = .ok (.getfield 36, 3) := by decide +kernel
theorem dX9_init_106 : decode cX9_init 106 = .ok (.invokespecial 42, 3) := by decide +kernel
theorem dX9_init_109 : decode cX9_init 109 = .ok (.putfield 45, 3) := by decide +kernel
theorem dX9_init_112 : decode cX9_init 112 = .ok (.aload_n 0, 1) := by decide +kernel
theorem dX9_init_113 : decode cX9_init 113 = .ok (.new 49, 3) := by decide +kernel
theorem dX9_init_116 : decode cX9_init 116 = .ok (.dup, 1) := by decide +kernel
theorem dX9_init_117 : decode cX9_init 117 = .ok (.aload_n 0, 1) := by decide +kernel
theorem dX9_init_118 : decode cX9_init 118 = .ok (.getfield 12, 3) := by decide +kernel
theorem dX9_init_121 : decode cX9_init 121 = .ok (.aload_n 0, 1) := by decide +kernel
theorem dX9_init_122 : decode cX9_init 122 = .ok (.getfield 31, 3) := by decide +kernel
theorem dX9_init_125 : decode cX9_init 125 = .ok (.iconst 0, 1) := by decide +kernel
theorem dX9_init_126 : decode cX9_init 126 = .ok (.aaload, 1) := by decide +kernel
theorem dX9_init_127 : decode cX9_init 127 = .ok (.invokespecial 51, 3) := by decide +kernel
theorem dX9_init_130 : decode cX9_init 130 = .ok (.putfield 54, 3) := by decide +kernel
theorem dX9_init_133 : decode cX9_init 133 = .ok (.aload_n 0, 1) := by decide +kernel
theorem dX9_init_134 : decode cX9_init 134 = .ok (.new 58, 3) := by decide +kernel
theorem dX9_init_137 : decode cX9_init 137 = .ok (.dup, 1) := by decide +kernel
theorem dX9_init_138 : decode cX9_init 138 = .ok (.aload_n 0, 1) := by decide +kernel
theorem dX9_init_139 : decode cX9_init 139 = .ok (.getfield 54, 3) := by decide +kernel
theorem dX9_init_142 : decode cX9_init 142 = .ok (.invokespecial 60, 3) := by decide +kernel
theorem dX9_init_145 : decode cX9_init 145 = .ok (.putfield 63, 3) := by decide +kernel
theorem dX9_init_148 : decode cX9_init 148 = .ok (.aload_n 0, 1) := by decide +kernel
theorem dX9_init_149 : decode cX9_init 149 = .ok (.new 67, 3) := by decide +kernel
theorem dX9_init_152 : decode cX9_init 152 = .ok (.dup, 1) := by decide +kernel
theorem dX9_init_153 : decode cX9_init 153 = .ok (.aload_n 0, 1) := by decide +kernel
theorem dX9_init_154 : decode cX9_init 154 = .ok (.getfield 54, 3) := by decide +kernel
theorem dX9_init_157 : decode cX9_init 157 = .ok (.invokespecial 69, 3) := by decide +kernel
theorem dX9_init_160 : decode cX9_init 160 = .ok (.putfield 70, 3) := by decide +kernel
theorem dX9_init_163 : decode cX9_init 163 = .ok (.aload_n 0, 1) := by decide +kernel
theorem dX9_init_164 : decode cX9_init 164 = .ok (.new 74, 3) := by decide +kernel
theorem dX9_init_167 : decode cX9_init 167 = .ok (.dup, 1) := by decide +kernel
theorem dX9_init_168 : decode cX9_init 168 = .ok (.aload_n 0, 1) := by decide +kernel
theorem dX9_init_169 : decode cX9_init 169 = .ok (.getfield 54, 3) := by decide +kernel
theorem dX9_init_172 : decode cX9_init 172 = .ok (.invokespecial 76, 3) := by decide +kernel
theorem dX9_init_175 : decode cX9_init 175 = .ok (.putfield 77, 3) := by decide +kernel
theorem dX9_init_178 : decode cX9_init 178 = .ok (.aload_n 0, 1) := by decide +kernel
theorem dX9_init_179 : decode cX9_init 179 = .ok (.bipush 12, 2) := by decide +kernel
theorem dX9_init_181 : decode cX9_init 181 = .ok (.newarray .int, 2) := by decide +kernel
theorem dX9_init_183 : decode cX9_init 183 = .ok (.putfield 81, 3) := by decide +kernel
theorem dX9_init_186 : decode cX9_init 186 = .ok (.return_, 1) := by decide +kernel
theorem dX9_person_0 : decode cX9_person 0 = .ok (.iload_n 1, 1) := by decide +kernel
theorem dX9_person_1 : decode cX9_person 1 = .ok (.iconst 0, 1) := by decide +kernel
theorem dX9_person_2 : decode cX9_person 2 = .ok (.iconst 4, 1) := by decide +kernel
theorem dX9_person_3 : decode cX9_person 3 = .ok (.invokestatic 85, 3) := by decide +kernel
theorem dX9_person_6 : decode cX9_person 6 = .ok (.ifCond .eq 39, 3) := by decide +kernel
theorem dX9_person_9 : decode cX9_person 9 = .ok (.iload_n 2, 1) := by decide +kernel
theorem dX9_person_10 : decode cX9_person 10 = .ok (.iconst 1, 1) := by decide +kernel
theorem dX9_person_11 : decode cX9_person 11 = .ok (.bipush 99, 2) := by decide +kernel
theorem dX9_person_13 : decode cX9_person 13 = .ok (.invokestatic 85, 3) := by decide +kernel
theorem dX9_person_16 : decode cX9_person 16 = .ok (.ifCond .eq 29, 3) := by decide +kernel
theorem dX9_person_19 : decode cX9_person 19 = .ok (.iload_n 3, 1) := by decide +kernel
theorem dX9_person_20 : decode cX9_person 20 = .ok (.iconst 0, 1) := by decide +kernel
theorem dX9_person_21 : decode cX9_person 21 = .ok (.bipush 99, 2) := by decide +kernel
theorem dX9_person_23 : decode cX9_person 23 = .ok (.invokestatic 85, 3) := by decide +kernel
theorem dX9_person_26 : decode cX9_person 26 = .ok (.ifCond .eq 19, 3) := by decide +kernel
theorem dX9_person_29 : decode cX9_person 29 = .ok (.iload 4, 2) := by decide +kernel
theorem dX9_person_31 : decode cX9_person 31 = .ok (.iconst 0, 1) := by decide +kernel
theorem dX9_person_32 : decode cX9_person 32 = .ok (.sipush 999, 3) := by decide +kernel
theorem dX9_person_35 : decode cX9_person 35 = .ok (.invokestatic 85, 3) := by decide +kernel
theorem dX9_person_38 : decode cX9_person 38 = .ok (.ifCond .eq 7, 3) := by decide +kernel
theorem dX9_person_41 : decode cX9_person 41 = .ok (.iconst 1, 1) := by decide +kernel
theorem dX9_person_42 : decode cX9_person 42 = .ok (.goto 4, 3) := by decide +kernel
theorem dX9_person_45 : decode cX9_person 45 = .ok (.iconst 0, 1) := by decide +kernel
theorem dX9_person_46 : decode cX9_person 46 = .ok (.istore 5, 2) := by decide +kernel
theorem dX9_person_48 : decode cX9_person 48 = .ok (.iload 5, 2) := by decide +kernel
theorem dX9_person_50 : decode cX9_person 50 = .ok (.ifCond .eq 15, 3) := by decide +kernel
theorem dX9_person_53 : decode cX9_person 53 = .ok (.aload_n 0, 1) := by decide +kernel
theorem dX9_person_54 : decode cX9_person 54 = .ok (.getfield 12, 3) := by decide +kernel
theorem dX9_person_57 : decode cX9_person 57 = .ok (.getfield 89, 3) := by decide +kernel
theorem dX9_person_60 : decode cX9_person 60 = .ok (.bipush 16, 2) := by decide +kernel
theorem dX9_person_62 : decode cX9_person 62 = .ok (.if_icmp .lt 5, 3) := by decide +kernel
theorem dX9_person_65 : decode cX9_person 65 = .ok (.iconst (-1), 1) := by decide +kernel
theorem dX9_person_66 : decode cX9_person 66 = .ok (.ireturn, 1) := by decide +kernel
theorem dX9_person_67 : decode cX9_person 67 = .ok (.aload_n 0, 1) := by decide +kernel
theorem dX9_person_68 : decode cX9_person 68 = .ok (.getfield 12, 3) := by decide +kernel
theorem dX9_person_71 : decode cX9_person 71 = .ok (.iload_n 1, 1) := by decide +kernel
theorem dX9_person_72 : decode cX9_person 72 = .ok (.iload_n 2, 1) := by decide +kernel
theorem dX9_person_73 : decode cX9_person 73 = .ok (.iload_n 3, 1) := by decide +kernel
theorem dX9_person_74 : decode cX9_person 74 = .ok (.iload 4, 2) := by decide +kernel
theorem dX9_person_76 : decode cX9_person 76 = .ok (.invokevirtual 93, 3) := by decide +kernel
theorem dX9_person_79 : decode cX9_person 79 = .ok (.ireturn, 1) := by decide +kernel
theorem dX9_heels_0 : decode cX9_heels 0 = .ok (.aload_n 0, 1) := by decide +kernel
theorem dX9_heels_1 : decode cX9_heels 1 = .ok (.getfield 12, 3) := by decide +kernel
theorem dX9_heels_4 : decode cX9_heels 4 = .ok (.iload_n 1, 1) := by decide +kernel
theorem dX9_heels_5 : decode cX9_heels 5 = .ok (.invokevirtual 97, 3) := by decide +kernel
theorem dX9_heels_8 : decode cX9_heels 8 = .ok (.ifCond .eq 13, 3) := by decide +kernel
theorem dX9_heels_11 : decode cX9_heels 11 = .ok (.iload_n 2, 1) := by decide +kernel
theorem dX9_heels_12 : decode cX9_heels 12 = .ok (.iconst 0, 1) := by decide +kernel
theorem dX9_heels_13 : decode cX9_heels 13 = .ok (.bipush 9, 2) := by decide +kernel
theorem dX9_heels_15 : decode cX9_heels 15 = .ok (.invokestatic 85, 3) := by decide +kernel
theorem dX9_heels_18 : decode cX9_heels 18 = .ok (.ifCond .ne 5, 3) := by decide +kernel
theorem dX9_heels_21 : decode cX9_heels 21 = .ok (.iconst 0, 1) := by decide +kernel
theorem dX9_heels_22 : decode cX9_heels 22 = .ok (.ireturn, 1) := by decide +kernel
theorem dX9_heels_23 : decode cX9_heels 23 = .ok (.aload_n 0, 1) := by decide +kernel
theorem dX9_heels_24 : decode cX9_heels 24 = .ok (.getfield 12, 3) := by decide +kernel
theorem dX9_heels_27 : decode cX9_heels 27 = .ok (.getfield 101, 3) := by decide +kernel
theorem dX9_heels_30 : decode cX9_heels 30 = .ok (.iload_n 1, 1) := by decide +kernel
theorem dX9_heels_31 : decode cX9_heels 31 = .ok (.iload_n 2, 1) := by decide +kernel
theorem dX9_heels_32 : decode cX9_heels 32 = .ok (.iastore, 1) := by decide +kernel
theorem dX9_heels_33 : decode cX9_heels 33 = .ok (.iconst 1, 1) := by decide +kernel
theorem dX9_heels_34 : decode cX9_heels 34 = .ok (.ireturn, 1) := by decide +kernel
theorem dX9_dies_0 : decode cX9_dies 0 = .ok (.aload_n 0, 1) := by decide +kernel
theorem dX9_dies_1 : decode cX9_dies 1 = .ok (.getfield 12, 3) := by decide +kernel
theorem dX9_dies_4 : decode cX9_dies 4 = .ok (.iload_n 1, 1) := by decide +kernel
theorem dX9_dies_5 : decode cX9_dies 5 = .ok (.invokevirtual 97, 3) := by decide +kernel
theorem dX9_dies_8 : decode cX9_dies 8 = .ok (.ifCond .ne 5, 3) := by decide +kernel
theorem dX9_dies_11 : decode cX9_dies 11 = .ok (.iconst 0, 1) := by decide +kernel
theorem dX9_dies_12 : decode cX9_dies 12 = .ok (.ireturn, 1) := by decide +kernel
theorem dX9_dies_13 : decode cX9_dies 13 = .ok (.aload_n 0, 1) := by decide +kernel
theorem dX9_dies_14 : decode cX9_dies 14 = .ok (.getfield 12, 3) := by decide +kernel
theorem dX9_dies_17 : decode cX9_dies 17 = .ok (.dup, 1) := by decide +kernel
theorem dX9_dies_18 : decode cX9_dies 18 = .ok (.getfield 104, 3) := by decide +kernel
theorem dX9_dies_21 : decode cX9_dies 21 = .ok (.iconst 1, 1) := by decide +kernel
theorem dX9_dies_22 : decode cX9_dies 22 = .ok (.iload_n 1, 1) := by decide +kernel
theorem dX9_dies_23 : decode cX9_dies 23 = .ok (.ishl, 1) := by decide +kernel
theorem dX9_dies_24 : decode cX9_dies 24 = .ok (.iconst (-1), 1) := by decide +kernel
theorem dX9_dies_25 : decode cX9_dies 25 = .ok (.ixor, 1) := by decide +kernel
theorem dX9_dies_26 : decode cX9_dies 26 = .ok (.iand, 1) := by decide +kernel
theorem dX9_dies_27 : decode cX9_dies 27 = .ok (.putfield 104, 3) := by decide +kernel
theorem dX9_dies_30 : decode cX9_dies 30 = .ok (.iconst 1, 1) := by decide +kernel
theorem dX9_dies_31 : decode cX9_dies 31 = .ok (.ireturn, 1) := by decide +kernel
theorem dX9_feed_0 : decode cX9_feed 0 = .ok (.aload_n 0, 1) := by decide +kernel
theorem dX9_feed_1 : decode cX9_feed 1 = .ok (.getfield 25, 3) := by decide +kernel
theorem dX9_feed_4 : decode cX9_feed 4 = .ok (.getfield 107, 3) := by decide +kernel
theorem dX9_feed_7 : decode cX9_feed 7 = .ok (.sipush 180, 3) := by decide +kernel
theorem dX9_feed_10 : decode cX9_feed 10 = .ok (.if_icmp .le 5, 3) := by decide +kernel
theorem dX9_feed_13 : decode cX9_feed 13 = .ok (.iconst (-1), 1) := by decide +kernel
theorem dX9_feed_14 : decode cX9_feed 14 = .ok (.ireturn, 1) := by decide +kernel
theorem dX9_feed_15 : decode cX9_feed 15 = .ok (.aload_n 0, 1) := by decide +kernel
theorem dX9_feed_16 : decode cX9_feed 16 = .ok (.getfield 25, 3) := by decide +kernel
theorem dX9_feed_19 : decode cX9_feed 19 = .ok (.iload_n 1, 1) := by decide +kernel
theorem dX9_feed_20 : decode cX9_feed 20 = .ok (.invokevirtual 110, 3) := by decide +kernel
theorem dX9_feed_23 : decode cX9_feed 23 = .ok (.aload_n 0, 1) := by decide +kernel
theorem dX9_feed_24 : decode cX9_feed 24 = .ok (.getfield 25, 3) := by decide +kernel
theorem dX9_feed_27 : decode cX9_feed 27 = .ok (.iload_n 2, 1) := by decide +kernel
theorem dX9_feed_28 : decode cX9_feed 28 = .ok (.invokevirtual 110, 3) := by decide +kernel
theorem dX9_feed_31 : decode cX9_feed 31 = .ok (.aload_n 0, 1) := by decide +kernel
theorem dX9_feed_32 : decode cX9_feed 32 = .ok (.getfield 25, 3) := by decide +kernel
theorem dX9_feed_35 : decode cX9_feed 35 = .ok (.iload_n 3, 1) := by decide +kernel
theorem dX9_feed_36 : decode cX9_feed 36 = .ok (.invokevirtual 110, 3) := by decide +kernel
theorem dX9_feed_39 : decode cX9_feed 39 = .ok (.aload_n 0, 1) := by decide +kernel
theorem dX9_feed_40 : decode cX9_feed 40 = .ok (.getfield 25, 3) := by decide +kernel
theorem dX9_feed_43 : decode cX9_feed 43 = .ok (.iload 4, 2) := by decide +kernel
theorem dX9_feed_45 : decode cX9_feed 45 = .ok (.invokevirtual 110, 3) := by decide +kernel
theorem dX9_feed_48 : decode cX9_feed 48 = .ok (.aload_n 0, 1) := by decide +kernel
theorem dX9_feed_49 : decode cX9_feed 49 = .ok (.getfield 25, 3) := by decide +kernel
theorem dX9_feed_52 : decode cX9_feed 52 = .ok (.iload 5, 2) := by decide +kernel
theorem dX9_feed_54 : decode cX9_feed 54 = .ok (.invokevirtual 110, 3) := by decide +kernel
theorem dX9_feed_57 : decode cX9_feed 57 = .ok (.aload_n 0, 1) := by decide +kernel
theorem dX9_feed_58 : decode cX9_feed 58 = .ok (.getfield 25, 3) := by decide +kernel
theorem dX9_feed_61 : decode cX9_feed 61 = .ok (.getfield 107, 3) := by decide +kernel
theorem dX9_feed_64 : decode cX9_feed 64 = .ok (.ireturn, 1) := by decide +kernel
theorem dX9_law_0 : decode cX9_law 0 = .ok (.iload_n 1, 1) := by decide +kernel
theorem dX9_law_1 : decode cX9_law 1 = .ok (.iconst 0, 1) := by decide +kernel
theorem dX9_law_2 : decode cX9_law 2 = .ok (.iconst 1, 1) := by decide +kernel
theorem dX9_law_3 : decode cX9_law 3 = .ok (.invokestatic 85, 3) := by decide +kernel
theorem dX9_law_6 : decode cX9_law 6 = .ok (.ifCond .eq 25, 3) := by decide +kernel
theorem dX9_law_9 : decode cX9_law 9 = .ok (.iload_n 2, 1) := by decide +kernel
theorem dX9_law_10 : decode cX9_law 10 = .ok (.iconst 1, 1) := by decide +kernel
theorem dX9_law_11 : decode cX9_law 11 = .ok (.sipush 160, 3) := by decide +kernel
theorem dX9_law_14 : decode cX9_law 14 = .ok (.invokestatic 85, 3) := by decide +kernel
theorem dX9_law_17 : decode cX9_law 17 = .ok (.ifCond .eq 14, 3) := by decide +kernel
theorem dX9_law_20 : decode cX9_law 20 = .ok (.iload_n 2, 1) := by decide +kernel
theorem dX9_law_21 : decode cX9_law 21 = .ok (.aload_n 0, 1) := by decide +kernel
theorem dX9_law_22 : decode cX9_law 22 = .ok (.getfield 25, 3) := by decide +kernel
theorem dX9_law_25 : decode cX9_law 25 = .ok (.getfield 107, 3) := by decide +kernel
theorem dX9_law_28 : decode cX9_law 28 = .ok (.if_icmp .le 5, 3) := by decide +kernel
theorem dX9_law_31 : decode cX9_law 31 = .ok (.iconst (-1), 1) := by decide +kernel
theorem dX9_law_32 : decode cX9_law 32 = .ok (.ireturn, 1) := by decide +kernel
theorem dX9_law_33 : decode cX9_law 33 = .ok (.aload_n 0, 1) := by decide +kernel
theorem dX9_law_34 : decode cX9_law 34 = .ok (.getfield 45, 3) := by decide +kernel
theorem dX9_law_37 : decode cX9_law 37 = .ok (.iload_n 2, 1) := by decide +kernel
theorem dX9_law_38 : decode cX9_law 38 = .ok (.invokevirtual 114, 3) := by decide +kernel
theorem dX9_law_41 : decode cX9_law 41 = .ok (.istore_n 3, 1) := by decide +kernel
theorem dX9_law_42 : decode cX9_law 42 = .ok (.aload_n 0, 1) := by decide +kernel
theorem dX9_law_43 : decode cX9_law 43 = .ok (.getfield 25, 3) := by decide +kernel
theorem dX9_law_46 : decode cX9_law 46 = .ok (.iconst 0, 1) := by decide +kernel
theorem dX9_law_47 : decode cX9_law 47 = .ok (.putfield 107, 3) := by decide +kernel
theorem dX9_law_50 : decode cX9_law 50 = .ok (.iload_n 3, 1) := by decide +kernel
theorem dX9_law_51 : decode cX9_law 51 = .ok (.ifCond .lt 16, 3) := by decide +kernel
theorem dX9_law_54 : decode cX9_law 54 = .ok (.aload_n 0, 1) := by decide +kernel
theorem dX9_law_55 : decode cX9_law 55 = .ok (.getfield 31, 3) := by decide +kernel
theorem dX9_law_58 : decode cX9_law 58 = .ok (.iload_n 1, 1) := by decide +kernel
theorem dX9_law_59 : decode cX9_law 59 = .ok (.aaload, 1) := by decide +kernel
theorem dX9_law_60 : decode cX9_law 60 = .ok (.aload_n 0, 1) := by decide +kernel
theorem dX9_law_61 : decode cX9_law 61 = .ok (.getfield 36, 3) := by decide +kernel
theorem dX9_law_64 : decode cX9_law 64 = .ok (.invokevirtual 118, 3) := by decide +kernel
theorem dX9_law_67 : decode cX9_law 67 = .ok (.iload_n 3, 1) := by decide +kernel
theorem dX9_law_68 : decode cX9_law 68 = .ok (.ireturn, 1) := by decide +kernel
theorem dX9_tall_0 : decode cX9_tall 0 = .ok (.aload_n 0, 1) := by decide +kernel
theorem dX9_tall_1 : decode cX9_tall 1 = .ok (.getfield 12, 3) := by decide +kernel
theorem dX9_tall_4 : decode cX9_tall 4 = .ok (.iload_n 1, 1) := by decide +kernel
theorem dX9_tall_5 : decode cX9_tall 5 = .ok (.invokevirtual 122, 3) := by decide +kernel
theorem dX9_tall_8 : decode cX9_tall 8 = .ok (.ifCond .eq 14, 3) := by decide +kernel
theorem dX9_tall_11 : decode cX9_tall 11 = .ok (.aload_n 0, 1) := by decide +kernel
theorem dX9_tall_12 : decode cX9_tall 12 = .ok (.getfield 12, 3) := by decide +kernel
theorem dX9_tall_15 : decode cX9_tall 15 = .ok (.iload_n 1, 1) := by decide +kernel
theorem dX9_tall_16 : decode cX9_tall 16 = .ok (.invokevirtual 125, 3) := by decide +kernel
theorem dX9_tall_19 : decode cX9_tall 19 = .ok (.goto 4, 3) := by decide +kernel
theorem dX9_tall_22 : decode cX9_tall 22 = .ok (.iconst (-1), 1) := by decide +kernel
theorem dX9_tall_23 : decode cX9_tall 23 = .ok (.ireturn, 1) := by decide +kernel
theorem dX9_top_0 : decode cX9_top 0 = .ok (.aload_n 0, 1) := by decide +kernel
theorem dX9_top_1 : decode cX9_top 1 = .ok (.getfield 12, 3) := by decide +kernel
theorem dX9_top_4 : decode cX9_top 4 = .ok (.invokevirtual 128, 3) := by decide +kernel
theorem dX9_top_7 : decode cX9_top 7 = .ok (.ireturn, 1) := by decide +kernel
theorem dX9_step_0 : decode cX9_step 0 = .ok (.aload_n 0, 1) := by decide +kernel
theorem dX9_step_1 : decode cX9_step 1 = .ok (.getfield 12, 3) := by decide +kernel
theorem dX9_step_4 : decode cX9_step 4 = .ok (.iload_n 1, 1) := by decide +kernel
theorem dX9_step_5 : decode cX9_step 5 = .ok (.invokevirtual 122, 3) := by decide +kernel
theorem dX9_step_8 : decode cX9_step 8 = .ok (.ifCond .eq 19, 3) := by decide +kernel
theorem dX9_step_11 : decode cX9_step 11 = .ok (.aload_n 0, 1) := by decide +kernel
theorem dX9_step_12 : decode cX9_step 12 = .ok (.getfield 12, 3) := by decide +kernel
theorem dX9_step_15 : decode cX9_step 15 = .ok (.iload_n 2, 1) := by decide +kernel
theorem dX9_step_16 : decode cX9_step 16 = .ok (.invokevirtual 122, 3) := by decide +kernel
theorem dX9_step_19 : decode cX9_step 19 = .ok (.ifCond .eq 8, 3) := by decide +kernel
theorem dX9_step_22 : decode cX9_step 22 = .ok (.iload_n 1, 1) := by decide +kernel
theorem dX9_step_23 : decode cX9_step 23 = .ok (.iload_n 2, 1) := by decide +kernel
theorem dX9_step_24 : decode cX9_step 24 = .ok (.if_icmp .ne 5, 3) := by decide +kernel
theorem dX9_step_27 : decode cX9_step 27 = .ok (.iconst (-1), 1) := by decide +kernel
theorem dX9_step_28 : decode cX9_step 28 = .ok (.ireturn, 1) := by decide +kernel
theorem dX9_step_29 : decode cX9_step 29 = .ok (.aload_n 0, 1) := by decide +kernel
theorem dX9_step_30 : decode cX9_step 30 = .ok (.getfield 54, 3) := by decide +kernel
theorem dX9_step_33 : decode cX9_step 33 = .ok (.aload_n 0, 1) := by decide +kernel
theorem dX9_step_34 : decode cX9_step 34 = .ok (.getfield 12, 3) := by decide +kernel
theorem dX9_step_37 : decode cX9_step 37 = .ok (.aload_n 0, 1) := by decide +kernel
theorem dX9_step_38 : decode cX9_step 38 = .ok (.getfield 31, 3) := by decide +kernel
theorem dX9_step_41 : decode cX9_step 41 = .ok (.iconst 0, 1) := by decide +kernel
theorem dX9_step_42 : decode cX9_step 42 = .ok (.aaload, 1) := by decide +kernel
theorem dX9_step_43 : decode cX9_step 43 = .ok (.invokevirtual 132, 3) := by decide +kernel
theorem dX9_step_46 : decode cX9_step 46 = .ok (.aload_n 0, 1) := by decide +kernel
theorem dX9_step_47 : decode cX9_step 47 = .ok (.getfield 54, 3) := by decide +kernel
theorem dX9_step_50 : decode cX9_step 50 = .ok (.iload_n 1, 1) := by decide +kernel
theorem dX9_step_51 : decode cX9_step 51 = .ok (.iload_n 2, 1) := by decide +kernel
theorem dX9_step_52 : decode cX9_step 52 = .ok (.invokevirtual 135, 3) := by decide +kernel
theorem dX9_step_55 : decode cX9_step 55 = .ok (.ifCond .eq 15, 3) := by decide +kernel
theorem dX9_step_58 : decode cX9_step 58 = .ok (.aload_n 0, 1) := by decide +kernel
theorem dX9_step_59 : decode cX9_step 59 = .ok (.getfield 54, 3) := by decide +kernel
theorem dX9_step_62 : decode cX9_step 62 = .ok (.iload_n 1, 1) := by decide +kernel
theorem dX9_step_63 : decode cX9_step 63 = .ok (.iload_n 2, 1) := by decide +kernel
theorem dX9_step_64 : decode cX9_step 64 = .ok (.invokevirtual 139, 3) := by decide +kernel
theorem dX9_step_67 : decode cX9_step 67 = .ok (.goto 5, 3) := by decide +kernel
theorem dX9_step_70 : decode cX9_step 70 = .ok (.bipush (-2), 2) := by decide +kernel
theorem dX9_step_72 : decode cX9_step 72 = .ok (.ireturn, 1) := by decide +kernel
theorem dX9_oath_0 : decode cX9_oath 0 = .ok (.aload_n 0, 1) := by decide +kernel
theorem dX9_oath_1 : decode cX9_oath 1 = .ok (.getfield 12, 3) := by decide +kernel
theorem dX9_oath_4 : decode cX9_oath 4 = .ok (.iload_n 1, 1) := by decide +kernel
theorem dX9_oath_5 : decode cX9_oath 5 = .ok (.invokevirtual 97, 3) := by decide +kernel
theorem dX9_oath_8 : decode cX9_oath 8 = .ok (.ifCond .eq 24, 3) := by decide +kernel
theorem dX9_oath_11 : decode cX9_oath 11 = .ok (.iload_n 2, 1) := by decide +kernel
theorem dX9_oath_12 : decode cX9_oath 12 = .ok (.iconst 0, 1) := by decide +kernel
theorem dX9_oath_13 : decode cX9_oath 13 = .ok (.iconst 3, 1) := by decide +kernel
theorem dX9_oath_14 : decode cX9_oath 14 = .ok (.invokestatic 85, 3) := by decide +kernel
theorem dX9_oath_17 : decode cX9_oath 17 = .ok (.ifCond .eq 15, 3) := by decide +kernel
theorem dX9_oath_20 : decode cX9_oath 20 = .ok (.aload_n 0, 1) := by decide +kernel
theorem dX9_oath_21 : decode cX9_oath 21 = .ok (.getfield 12, 3) := by decide +kernel
theorem dX9_oath_24 : decode cX9_oath 24 = .ok (.getfield 143, 3) := by decide +kernel
theorem dX9_oath_27 : decode cX9_oath 27 = .ok (.bipush 12, 2) := by decide +kernel
theorem dX9_oath_29 : decode cX9_oath 29 = .ok (.if_icmp .lt 5, 3) := by decide +kernel
theorem dX9_oath_32 : decode cX9_oath 32 = .ok (.iconst (-1), 1) := by decide +kernel
theorem dX9_oath_33 : decode cX9_oath 33 = .ok (.ireturn, 1) := by decide +kernel
theorem dX9_oath_34 : decode cX9_oath 34 = .ok (.aload_n 0, 1) := by decide +kernel
theorem dX9_oath_35 : decode cX9_oath 35 = .ok (.getfield 12, 3) := by decide +kernel
theorem dX9_oath_38 : decode cX9_oath 38 = .ok (.iload_n 1, 1) := by decide +kernel
theorem dX9_oath_39 : decode cX9_oath 39 = .ok (.invokevirtual 146, 3) := by decide +kernel
theorem dX9_oath_42 : decode cX9_oath 42 = .ok (.ireturn, 1) := by decide +kernel
theorem dX9_swear_0 : decode cX9_swear 0 = .ok (.aload_n 0, 1) := by decide +kernel
theorem dX9_swear_1 : decode cX9_swear 1 = .ok (.getfield 12, 3) := by decide +kernel
theorem dX9_swear_4 : decode cX9_swear 4 = .ok (.iload_n 1, 1) := by decide +kernel
theorem dX9_swear_5 : decode cX9_swear 5 = .ok (.invokevirtual 149, 3) := by decide +kernel
theorem dX9_swear_8 : decode cX9_swear 8 = .ok (.ifCond .eq 14, 3) := by decide +kernel
theorem dX9_swear_11 : decode cX9_swear 11 = .ok (.aload_n 0, 1) := by decide +kernel
theorem dX9_swear_12 : decode cX9_swear 12 = .ok (.getfield 12, 3) := by decide +kernel
theorem dX9_swear_15 : decode cX9_swear 15 = .ok (.iload_n 2, 1) := by decide +kernel
theorem dX9_swear_16 : decode cX9_swear 16 = .ok (.invokevirtual 122, 3) := by decide +kernel
theorem dX9_swear_19 : decode cX9_swear 19 = .ok (.ifCond .ne 5, 3) := by decide +kernel
theorem dX9_swear_22 : decode cX9_swear 22 = .ok (.iconst (-1), 1) := by decide +kernel
theorem dX9_swear_23 : decode cX9_swear 23 = .ok (.ireturn, 1) := by decide +kernel
theorem dX9_swear_24 : decode cX9_swear 24 = .ok (.aload_n 0, 1) := by decide +kernel
theorem dX9_swear_25 : decode cX9_swear 25 = .ok (.getfield 12, 3) := by decide +kernel
theorem dX9_swear_28 : decode cX9_swear 28 = .ok (.getfield 152, 3) := by decide +kernel
theorem dX9_swear_31 : decode cX9_swear 31 = .ok (.iload_n 1, 1) := by decide +kernel
theorem dX9_swear_32 : decode cX9_swear 32 = .ok (.iaload, 1) := by decide +kernel
theorem dX9_swear_33 : decode cX9_swear 33 = .ok (.iload_n 2, 1) := by decide +kernel
theorem dX9_swear_34 : decode cX9_swear 34 = .ok (.invokestatic 155, 3) := by decide +kernel
theorem dX9_swear_37 : decode cX9_swear 37 = .ok (.ifCond .eq 6, 3) := by decide +kernel
theorem dX9_swear_40 : decode cX9_swear 40 = .ok (.bipush (-2), 2) := by decide +kernel
theorem dX9_swear_42 : decode cX9_swear 42 = .ok (.ireturn, 1) := by decide +kernel
theorem dX9_swear_43 : decode cX9_swear 43 = .ok (.aload_n 0, 1) := by decide +kernel
theorem dX9_swear_44 : decode cX9_swear 44 = .ok (.getfield 54, 3) := by decide +kernel
theorem dX9_swear_47 : decode cX9_swear 47 = .ok (.aload_n 0, 1) := by decide +kernel
theorem dX9_swear_48 : decode cX9_swear 48 = .ok (.getfield 12, 3) := by decide +kernel
theorem dX9_swear_51 : decode cX9_swear 51 = .ok (.aload_n 0, 1) := by decide +kernel
theorem dX9_swear_52 : decode cX9_swear 52 = .ok (.getfield 31, 3) := by decide +kernel
theorem dX9_swear_55 : decode cX9_swear 55 = .ok (.iconst 0, 1) := by decide +kernel
theorem dX9_swear_56 : decode cX9_swear 56 = .ok (.aaload, 1) := by decide +kernel
theorem dX9_swear_57 : decode cX9_swear 57 = .ok (.invokevirtual 132, 3) := by decide +kernel
theorem dX9_swear_60 : decode cX9_swear 60 = .ok (.aload_n 0, 1) := by decide +kernel
theorem dX9_swear_61 : decode cX9_swear 61 = .ok (.getfield 54, 3) := by decide +kernel
theorem dX9_swear_64 : decode cX9_swear 64 = .ok (.invokevirtual 158, 3) := by decide +kernel
theorem dX9_swear_67 : decode cX9_swear 67 = .ok (.aload_n 0, 1) := by decide +kernel
theorem dX9_swear_68 : decode cX9_swear 68 = .ok (.getfield 54, 3) := by decide +kernel
theorem dX9_swear_71 : decode cX9_swear 71 = .ok (.aload_n 0, 1) := by decide +kernel
theorem dX9_swear_72 : decode cX9_swear 72 = .ok (.getfield 12, 3) := by decide +kernel
theorem dX9_swear_75 : decode cX9_swear 75 = .ok (.getfield 152, 3) := by decide +kernel
theorem dX9_swear_78 : decode cX9_swear 78 = .ok (.iload_n 1, 1) := by decide +kernel
theorem dX9_swear_79 : decode cX9_swear 79 = .ok (.iaload, 1) := by decide +kernel
theorem dX9_swear_80 : decode cX9_swear 80 = .ok (.iload_n 2, 1) := by decide +kernel
theorem dX9_swear_81 : decode cX9_swear 81 = .ok (.invokevirtual 161, 3) := by decide +kernel
theorem dX9_swear_84 : decode cX9_swear 84 = .ok (.istore_n 3, 1) := by decide +kernel
theorem dX9_swear_85 : decode cX9_swear 85 = .ok (.iload_n 3, 1) := by decide +kernel
theorem dX9_swear_86 : decode cX9_swear 86 = .ok (.iconst (-1), 1) := by decide +kernel
theorem dX9_swear_87 : decode cX9_swear 87 = .ok (.if_icmp .ne 6, 3) := by decide +kernel
theorem dX9_swear_90 : decode cX9_swear 90 = .ok (.bipush (-3), 2) := by decide +kernel
theorem dX9_swear_92 : decode cX9_swear 92 = .ok (.ireturn, 1) := by decide +kernel
theorem dX9_swear_93 : decode cX9_swear 93 = .ok (.aload_n 0, 1) := by decide +kernel
theorem dX9_swear_94 : decode cX9_swear 94 = .ok (.getfield 12, 3) := by decide +kernel
theorem dX9_swear_97 : decode cX9_swear 97 = .ok (.getfield 152, 3) := by decide +kernel
theorem dX9_swear_100 : decode cX9_swear 100 = .ok (.iload_n 1, 1) := by decide +kernel
theorem dX9_swear_101 : decode cX9_swear 101 = .ok (.dup2, 1) := by decide +kernel
theorem dX9_swear_102 : decode cX9_swear 102 = .ok (.iaload, 1) := by decide +kernel
theorem dX9_swear_103 : decode cX9_swear 103 = .ok (.iconst 1, 1) := by decide +kernel
theorem dX9_swear_104 : decode cX9_swear 104 = .ok (.iload_n 2, 1) := by decide +kernel
theorem dX9_swear_105 : decode cX9_swear 105 = .ok (.ishl, 1) := by decide +kernel
theorem dX9_swear_106 : decode cX9_swear 106 = .ok (.ior, 1) := by decide +kernel
theorem dX9_swear_107 : decode cX9_swear 107 = .ok (.iastore, 1) := by decide +kernel
theorem dX9_swear_108 : decode cX9_swear 108 = .ok (.iload_n 3, 1) := by decide +kernel
theorem dX9_swear_109 : decode cX9_swear 109 = .ok (.ireturn, 1) := by decide +kernel
theorem dX9_holds_0 : decode cX9_holds 0 = .ok (.aload_n 0, 1) := by decide +kernel
theorem dX9_holds_1 : decode cX9_holds 1 = .ok (.getfield 12, 3) := by decide +kernel
theorem dX9_holds_4 : decode cX9_holds 4 = .ok (.iload_n 1, 1) := by decide +kernel
theorem dX9_holds_5 : decode cX9_holds 5 = .ok (.invokevirtual 149, 3) := by decide +kernel
theorem dX9_holds_8 : decode cX9_holds 8 = .ok (.ifCond .ne 5, 3) := by decide +kernel
theorem dX9_holds_11 : decode cX9_holds 11 = .ok (.iconst (-1), 1) := by decide +kernel
theorem dX9_holds_12 : decode cX9_holds 12 = .ok (.ireturn, 1) := by decide +kernel
theorem dX9_holds_13 : decode cX9_holds 13 = .ok (.aload_n 0, 1) := by decide +kernel
theorem dX9_holds_14 : decode cX9_holds 14 = .ok (.getfield 54, 3) := by decide +kernel
theorem dX9_holds_17 : decode cX9_holds 17 = .ok (.aload_n 0, 1) := by decide +kernel
theorem dX9_holds_18 : decode cX9_holds 18 = .ok (.getfield 12, 3) := by decide +kernel
theorem dX9_holds_21 : decode cX9_holds 21 = .ok (.aload_n 0, 1) := by decide +kernel
theorem dX9_holds_22 : decode cX9_holds 22 = .ok (.getfield 31, 3) := by decide +kernel
theorem dX9_holds_25 : decode cX9_holds 25 = .ok (.iconst 0, 1) := by decide +kernel
theorem dX9_holds_26 : decode cX9_holds 26 = .ok (.aaload, 1) := by decide +kernel
theorem dX9_holds_27 : decode cX9_holds 27 = .ok (.invokevirtual 132, 3) := by decide +kernel
theorem dX9_holds_30 : decode cX9_holds 30 = .ok (.aload_n 0, 1) := by decide +kernel
theorem dX9_holds_31 : decode cX9_holds 31 = .ok (.getfield 54, 3) := by decide +kernel
theorem dX9_holds_34 : decode cX9_holds 34 = .ok (.aload_n 0, 1) := by decide +kernel
theorem dX9_holds_35 : decode cX9_holds 35 = .ok (.getfield 12, 3) := by decide +kernel
theorem dX9_holds_38 : decode cX9_holds 38 = .ok (.getfield 164, 3) := by decide +kernel
theorem dX9_holds_41 : decode cX9_holds 41 = .ok (.iload_n 1, 1) := by decide +kernel
theorem dX9_holds_42 : decode cX9_holds 42 = .ok (.iaload, 1) := by decide +kernel
theorem dX9_holds_43 : decode cX9_holds 43 = .ok (.aload_n 0, 1) := by decide +kernel
theorem dX9_holds_44 : decode cX9_holds 44 = .ok (.getfield 12, 3) := by decide +kernel
theorem dX9_holds_47 : decode cX9_holds 47 = .ok (.getfield 152, 3) := by decide +kernel
theorem dX9_holds_50 : decode cX9_holds 50 = .ok (.iload_n 1, 1) := by decide +kernel
theorem dX9_holds_51 : decode cX9_holds 51 = .ok (.iaload, 1) := by decide +kernel
theorem dX9_holds_52 : decode cX9_holds 52 = .ok (.invokevirtual 167, 3) := by decide +kernel
theorem dX9_holds_55 : decode cX9_holds 55 = .ok (.ifCond .eq 7, 3) := by decide +kernel
theorem dX9_holds_58 : decode cX9_holds 58 = .ok (.iconst 1, 1) := by decide +kernel
theorem dX9_holds_59 : decode cX9_holds 59 = .ok (.goto 4, 3) := by decide +kernel
theorem dX9_holds_62 : decode cX9_holds 62 = .ok (.iconst 0, 1) := by decide +kernel
theorem dX9_holds_63 : decode cX9_holds 63 = .ok (.ireturn, 1) := by decide +kernel
theorem dX9_year_0 : decode cX9_year 0 = .ok (.iload_n 1, 1) := by decide +kernel
theorem dX9_year_1 : decode cX9_year 1 = .ok (.iconst 0, 1) := by decide +kernel
theorem dX9_year_2 : decode cX9_year 2 = .ok (.bipush 9, 2) := by decide +kernel
theorem dX9_year_4 : decode cX9_year 4 = .ok (.invokestatic 85, 3) := by decide +kernel
theorem dX9_year_7 : decode cX9_year 7 = .ok (.ifCond .eq 20, 3) := by decide +kernel
theorem dX9_year_10 : decode cX9_year 10 = .ok (.aload_n 0, 1) := by decide +kernel
theorem dX9_year_11 : decode cX9_year 11 = .ok (.getfield 12, 3) := by decide +kernel
theorem dX9_year_14 : decode cX9_year 14 = .ok (.aload_n 0, 1) := by decide +kernel
theorem dX9_year_15 : decode cX9_year 15 = .ok (.getfield 31, 3) := by decide +kernel
theorem dX9_year_18 : decode cX9_year 18 = .ok (.iconst 0, 1) := by decide +kernel
theorem dX9_year_19 : decode cX9_year 19 = .ok (.aaload, 1) := by decide +kernel
theorem dX9_year_20 : decode cX9_year 20 = .ok (.iload_n 1, 1) := by decide +kernel
theorem dX9_year_21 : decode cX9_year 21 = .ok (.invokevirtual 170, 3) := by decide +kernel
theorem dX9_year_24 : decode cX9_year 24 = .ok (.goto 4, 3) := by decide +kernel
theorem dX9_year_27 : decode cX9_year 27 = .ok (.iconst (-1), 1) := by decide +kernel
theorem dX9_year_28 : decode cX9_year 28 = .ok (.ireturn, 1) := by decide +kernel
theorem dX9_years_0 : decode cX9_years 0 = .ok (.iload_n 1, 1) := by decide +kernel
theorem dX9_years_1 : decode cX9_years 1 = .ok (.iconst 1, 1) := by decide +kernel
theorem dX9_years_2 : decode cX9_years 2 = .ok (.bipush 60, 2) := by decide +kernel
theorem dX9_years_4 : decode cX9_years 4 = .ok (.invokestatic 85, 3) := by decide +kernel
theorem dX9_years_7 : decode cX9_years 7 = .ok (.ifCond .eq 15, 3) := by decide +kernel
theorem dX9_years_10 : decode cX9_years 10 = .ok (.aload_n 0, 1) := by decide +kernel
theorem dX9_years_11 : decode cX9_years 11 = .ok (.aload_n 0, 1) := by decide +kernel
theorem dX9_years_12 : decode cX9_years 12 = .ok (.getfield 12, 3) := by decide +kernel
theorem dX9_years_15 : decode cX9_years 15 = .ok (.iload_n 1, 1) := by decide +kernel
theorem dX9_years_16 : decode cX9_years 16 = .ok (.invokevirtual 174, 3) := by decide +kernel
theorem dX9_years_19 : decode cX9_years 19 = .ok (.goto 4, 3) := by decide +kernel
theorem dX9_years_22 : decode cX9_years 22 = .ok (.iconst (-1), 1) := by decide +kernel
theorem dX9_years_23 : decode cX9_years 23 = .ok (.ireturn, 1) := by decide +kernel
theorem dX9_tried_0 : decode cX9_tried 0 = .ok (.iload_n 2, 1) := by decide +kernel
theorem dX9_tried_1 : decode cX9_tried 1 = .ok (.iconst (-1), 1) := by decide +kernel
theorem dX9_tried_2 : decode cX9_tried 2 = .ok (.if_icmp .eq 20, 3) := by decide +kernel
theorem dX9_tried_5 : decode cX9_tried 5 = .ok (.iload_n 2, 1) := by decide +kernel
theorem dX9_tried_6 : decode cX9_tried 6 = .ok (.bipush 20, 2) := by decide +kernel
theorem dX9_tried_8 : decode cX9_tried 8 = .ok (.if_icmp .eq 14, 3) := by decide +kernel
theorem dX9_tried_11 : decode cX9_tried 11 = .ok (.aload_n 0, 1) := by decide +kernel
theorem dX9_tried_12 : decode cX9_tried 12 = .ok (.getfield 12, 3) := by decide +kernel
theorem dX9_tried_15 : decode cX9_tried 15 = .ok (.iload_n 2, 1) := by decide +kernel
theorem dX9_tried_16 : decode cX9_tried 16 = .ok (.invokevirtual 122, 3) := by decide +kernel
theorem dX9_tried_19 : decode cX9_tried 19 = .ok (.ifCond .eq 7, 3) := by decide +kernel
theorem dX9_tried_22 : decode cX9_tried 22 = .ok (.iconst 1, 1) := by decide +kernel
theorem dX9_tried_23 : decode cX9_tried 23 = .ok (.goto 4, 3) := by decide +kernel
theorem dX9_tried_26 : decode cX9_tried 26 = .ok (.iconst 0, 1) := by decide +kernel
theorem dX9_tried_27 : decode cX9_tried 27 = .ok (.istore_n 3, 1) := by decide +kernel
theorem dX9_tried_28 : decode cX9_tried 28 = .ok (.iload_n 1, 1) := by decide +kernel
theorem dX9_tried_29 : decode cX9_tried 29 = .ok (.iconst 1, 1) := by decide +kernel
theorem dX9_tried_30 : decode cX9_tried 30 = .ok (.bipush 60, 2) := by decide +kernel
theorem dX9_tried_32 : decode cX9_tried 32 = .ok (.invokestatic 85, 3) := by decide +kernel
theorem dX9_tried_35 : decode cX9_tried 35 = .ok (.ifCond .eq 7, 3) := by decide +kernel
theorem dX9_tried_38 : decode cX9_tried 38 = .ok (.iload_n 3, 1) := by decide +kernel
theorem dX9_tried_39 : decode cX9_tried 39 = .ok (.ifCond .ne 5, 3) := by decide +kernel
theorem dX9_tried_42 : decode cX9_tried 42 = .ok (.iconst (-1), 1) := by decide +kernel
theorem dX9_tried_43 : decode cX9_tried 43 = .ok (.ireturn, 1) := by decide +kernel
theorem dX9_tried_44 : decode cX9_tried 44 = .ok (.aload_n 0, 1) := by decide +kernel
theorem dX9_tried_45 : decode cX9_tried 45 = .ok (.getfield 19, 3) := by decide +kernel
theorem dX9_tried_48 : decode cX9_tried 48 = .ok (.aload_n 0, 1) := by decide +kernel
theorem dX9_tried_49 : decode cX9_tried 49 = .ok (.getfield 12, 3) := by decide +kernel
theorem dX9_tried_52 : decode cX9_tried 52 = .ok (.invokevirtual 178, 3) := by decide +kernel
theorem dX9_tried_55 : decode cX9_tried 55 = .ok (.aload_n 0, 1) := by decide +kernel
theorem dX9_tried_56 : decode cX9_tried 56 = .ok (.aload_n 0, 1) := by decide +kernel
theorem dX9_tried_57 : decode cX9_tried 57 = .ok (.getfield 19, 3) := by decide +kernel
theorem dX9_tried_60 : decode cX9_tried 60 = .ok (.iload_n 1, 1) := by decide +kernel
theorem dX9_tried_61 : decode cX9_tried 61 = .ok (.invokevirtual 174, 3) := by decide +kernel
theorem dX9_tried_64 : decode cX9_tried 64 = .ok (.pop, 1) := by decide +kernel
theorem dX9_tried_65 : decode cX9_tried 65 = .ok (.iload_n 2, 1) := by decide +kernel
theorem dX9_tried_66 : decode cX9_tried 66 = .ok (.iconst (-1), 1) := by decide +kernel
theorem dX9_tried_67 : decode cX9_tried 67 = .ok (.if_icmp .ne 21, 3) := by decide +kernel
theorem dX9_tried_70 : decode cX9_tried 70 = .ok (.aload_n 0, 1) := by decide +kernel
theorem dX9_tried_71 : decode cX9_tried 71 = .ok (.aload_n 0, 1) := by decide +kernel
theorem dX9_tried_72 : decode cX9_tried 72 = .ok (.getfield 19, 3) := by decide +kernel
theorem dX9_tried_75 : decode cX9_tried 75 = .ok (.aload_n 0, 1) := by decide +kernel
theorem dX9_tried_76 : decode cX9_tried 76 = .ok (.getfield 31, 3) := by decide +kernel
theorem dX9_tried_79 : decode cX9_tried 79 = .ok (.iconst 0, 1) := by decide +kernel
theorem dX9_tried_80 : decode cX9_tried 80 = .ok (.aaload, 1) := by decide +kernel
theorem dX9_tried_81 : decode cX9_tried 81 = .ok (.invokevirtual 181, 3) := by decide +kernel
theorem dX9_tried_84 : decode cX9_tried 84 = .ok (.invokestatic 185, 3) := by decide +kernel
theorem dX9_tried_87 : decode cX9_tried 87 = .ok (.ireturn, 1) := by decide +kernel
theorem dX9_tried_88 : decode cX9_tried 88 = .ok (.iload_n 2, 1) := by decide +kernel
theorem dX9_tried_89 : decode cX9_tried 89 = .ok (.bipush 20, 2) := by decide +kernel
theorem dX9_tried_91 : decode cX9_tried 91 = .ok (.if_icmp .ne 14, 3) := by decide +kernel
theorem dX9_tried_94 : decode cX9_tried 94 = .ok (.aload_n 0, 1) := by decide +kernel
theorem dX9_tried_95 : decode cX9_tried 95 = .ok (.getfield 19, 3) := by decide +kernel
theorem dX9_tried_98 : decode cX9_tried 98 = .ok (.getfield 104, 3) := by decide +kernel
theorem dX9_tried_101 : decode cX9_tried 101 = .ok (.invokestatic 185, 3) := by decide +kernel
theorem dX9_tried_104 : decode cX9_tried 104 = .ok (.ireturn, 1) := by decide +kernel
theorem dX9_tried_105 : decode cX9_tried 105 = .ok (.aload_n 0, 1) := by decide +kernel
theorem dX9_tried_106 : decode cX9_tried 106 = .ok (.getfield 19, 3) := by decide +kernel
theorem dX9_tried_109 : decode cX9_tried 109 = .ok (.iload_n 2, 1) := by decide +kernel
theorem dX9_tried_110 : decode cX9_tried 110 = .ok (.invokevirtual 97, 3) := by decide +kernel
theorem dX9_tried_113 : decode cX9_tried 113 = .ok (.ifCond .eq 14, 3) := by decide +kernel
theorem dX9_tried_116 : decode cX9_tried 116 = .ok (.aload_n 0, 1) := by decide +kernel
theorem dX9_tried_117 : decode cX9_tried 117 = .ok (.getfield 19, 3) := by decide +kernel
theorem dX9_tried_120 : decode cX9_tried 120 = .ok (.iload_n 2, 1) := by decide +kernel
theorem dX9_tried_121 : decode cX9_tried 121 = .ok (.invokevirtual 125, 3) := by decide +kernel
theorem dX9_tried_124 : decode cX9_tried 124 = .ok (.goto 5, 3) := by decide +kernel
theorem dX9_tried_127 : decode cX9_tried 127 = .ok (.bipush (-2), 2) := by decide +kernel
theorem dX9_tried_129 : decode cX9_tried 129 = .ok (.ireturn, 1) := by decide +kernel
theorem dX9_chain_0 : decode cX9_chain 0 = .ok (.aload_n 0, 1) := by decide +kernel
theorem dX9_chain_1 : decode cX9_chain 1 = .ok (.getfield 12, 3) := by decide +kernel
theorem dX9_chain_4 : decode cX9_chain 4 = .ok (.iload_n 1, 1) := by decide +kernel
theorem dX9_chain_5 : decode cX9_chain 5 = .ok (.invokevirtual 149, 3) := by decide +kernel
theorem dX9_chain_8 : decode cX9_chain 8 = .ok (.ifCond .eq 13, 3) := by decide +kernel
theorem dX9_chain_11 : decode cX9_chain 11 = .ok (.iload_n 2, 1) := by decide +kernel
theorem dX9_chain_12 : decode cX9_chain 12 = .ok (.iconst (-1), 1) := by decide +kernel
theorem dX9_chain_13 : decode cX9_chain 13 = .ok (.bipush 16, 2) := by decide +kernel
theorem dX9_chain_15 : decode cX9_chain 15 = .ok (.invokestatic 85, 3) := by decide +kernel
theorem dX9_chain_18 : decode cX9_chain 18 = .ok (.ifCond .ne 6, 3) := by decide +kernel
theorem dX9_chain_21 : decode cX9_chain 21 = .ok (.bipush (-3), 2) := by decide +kernel
theorem dX9_chain_23 : decode cX9_chain 23 = .ok (.ireturn, 1) := by decide +kernel
theorem dX9_chain_24 : decode cX9_chain 24 = .ok (.aload_n 0, 1) := by decide +kernel
theorem dX9_chain_25 : decode cX9_chain 25 = .ok (.getfield 54, 3) := by decide +kernel
theorem dX9_chain_28 : decode cX9_chain 28 = .ok (.aload_n 0, 1) := by decide +kernel
theorem dX9_chain_29 : decode cX9_chain 29 = .ok (.getfield 12, 3) := by decide +kernel
theorem dX9_chain_32 : decode cX9_chain 32 = .ok (.aload_n 0, 1) := by decide +kernel
theorem dX9_chain_33 : decode cX9_chain 33 = .ok (.getfield 31, 3) := by decide +kernel
theorem dX9_chain_36 : decode cX9_chain 36 = .ok (.iconst 0, 1) := by decide +kernel
theorem dX9_chain_37 : decode cX9_chain 37 = .ok (.aaload, 1) := by decide +kernel
theorem dX9_chain_38 : decode cX9_chain 38 = .ok (.invokevirtual 132, 3) := by decide +kernel
theorem dX9_chain_41 : decode cX9_chain 41 = .ok (.aload_n 0, 1) := by decide +kernel
theorem dX9_chain_42 : decode cX9_chain 42 = .ok (.getfield 54, 3) := by decide +kernel
theorem dX9_chain_45 : decode cX9_chain 45 = .ok (.invokevirtual 158, 3) := by decide +kernel
theorem dX9_chain_48 : decode cX9_chain 48 = .ok (.aload_n 0, 1) := by decide +kernel
theorem dX9_chain_49 : decode cX9_chain 49 = .ok (.getfield 63, 3) := by decide +kernel
theorem dX9_chain_52 : decode cX9_chain 52 = .ok (.aload_n 0, 1) := by decide +kernel
theorem dX9_chain_53 : decode cX9_chain 53 = .ok (.getfield 12, 3) := by decide +kernel
theorem dX9_chain_56 : decode cX9_chain 56 = .ok (.getfield 164, 3) := by decide +kernel
theorem dX9_chain_59 : decode cX9_chain 59 = .ok (.iload_n 1, 1) := by decide +kernel
theorem dX9_chain_60 : decode cX9_chain 60 = .ok (.iaload, 1) := by decide +kernel
theorem dX9_chain_61 : decode cX9_chain 61 = .ok (.aload_n 0, 1) := by decide +kernel
theorem dX9_chain_62 : decode cX9_chain 62 = .ok (.getfield 12, 3) := by decide +kernel
theorem dX9_chain_65 : decode cX9_chain 65 = .ok (.getfield 152, 3) := by decide +kernel
theorem dX9_chain_68 : decode cX9_chain 68 = .ok (.iload_n 1, 1) := by decide +kernel
theorem dX9_chain_69 : decode cX9_chain 69 = .ok (.iaload, 1) := by decide +kernel
theorem dX9_chain_70 : decode cX9_chain 70 = .ok (.invokevirtual 190, 3) := by decide +kernel
theorem dX9_chain_73 : decode cX9_chain 73 = .ok (.ifCond .ne 6, 3) := by decide +kernel
theorem dX9_chain_76 : decode cX9_chain 76 = .ok (.bipush (-2), 2) := by decide +kernel
theorem dX9_chain_78 : decode cX9_chain 78 = .ok (.ireturn, 1) := by decide +kernel
theorem dX9_chain_79 : decode cX9_chain 79 = .ok (.iload_n 2, 1) := by decide +kernel
theorem dX9_chain_80 : decode cX9_chain 80 = .ok (.iconst (-1), 1) := by decide +kernel
theorem dX9_chain_81 : decode cX9_chain 81 = .ok (.if_icmp .ne 11, 3) := by decide +kernel
theorem dX9_chain_84 : decode cX9_chain 84 = .ok (.aload_n 0, 1) := by decide +kernel
theorem dX9_chain_85 : decode cX9_chain 85 = .ok (.getfield 63, 3) := by decide +kernel
theorem dX9_chain_88 : decode cX9_chain 88 = .ok (.invokevirtual 193, 3) := by decide +kernel
theorem dX9_chain_91 : decode cX9_chain 91 = .ok (.ireturn, 1) := by decide +kernel
theorem dX9_chain_92 : decode cX9_chain 92 = .ok (.iload_n 2, 1) := by decide +kernel
theorem dX9_chain_93 : decode cX9_chain 93 = .ok (.bipush 16, 2) := by decide +kernel
theorem dX9_chain_95 : decode cX9_chain 95 = .ok (.if_icmp .ne 13, 3) := by decide +kernel
theorem dX9_chain_98 : decode cX9_chain 98 = .ok (.aload_n 0, 1) := by decide +kernel
theorem dX9_chain_99 : decode cX9_chain 99 = .ok (.getfield 63, 3) := by decide +kernel
theorem dX9_chain_102 : decode cX9_chain 102 = .ok (.invokevirtual 196, 3) := by decide +kernel
theorem dX9_chain_105 : decode cX9_chain 105 = .ok (.goto 11, 3) := by decide +kernel
theorem dX9_chain_108 : decode cX9_chain 108 = .ok (.aload_n 0, 1) := by decide +kernel
theorem dX9_chain_109 : decode cX9_chain 109 = .ok (.getfield 63, 3) := by decide +kernel
theorem dX9_chain_112 : decode cX9_chain 112 = .ok (.iload_n 2, 1) := by decide +kernel
theorem dX9_chain_113 : decode cX9_chain 113 = .ok (.invokevirtual 199, 3) := by decide +kernel
theorem dX9_chain_116 : decode cX9_chain 116 = .ok (.ireturn, 1) := by decide +kernel
theorem dX9_safe_0 : decode cX9_safe 0 = .ok (.aload_n 0, 1) := by decide +kernel
theorem dX9_safe_1 : decode cX9_safe 1 = .ok (.getfield 12, 3) := by decide +kernel
theorem dX9_safe_4 : decode cX9_safe 4 = .ok (.iload_n 1, 1) := by decide +kernel
theorem dX9_safe_5 : decode cX9_safe 5 = .ok (.invokevirtual 149, 3) := by decide +kernel
theorem dX9_safe_8 : decode cX9_safe 8 = .ok (.ifCond .eq 21, 3) := by decide +kernel
theorem dX9_safe_11 : decode cX9_safe 11 = .ok (.iload_n 2, 1) := by decide +kernel
theorem dX9_safe_12 : decode cX9_safe 12 = .ok (.iconst 1, 1) := by decide +kernel
theorem dX9_safe_13 : decode cX9_safe 13 = .ok (.iconst 2, 1) := by decide +kernel
theorem dX9_safe_14 : decode cX9_safe 14 = .ok (.invokestatic 85, 3) := by decide +kernel
theorem dX9_safe_17 : decode cX9_safe 17 = .ok (.ifCond .eq 12, 3) := by decide +kernel
theorem dX9_safe_20 : decode cX9_safe 20 = .ok (.iload_n 3, 1) := by decide +kernel
theorem dX9_safe_21 : decode cX9_safe 21 = .ok (.iconst 0, 1) := by decide +kernel
theorem dX9_safe_22 : decode cX9_safe 22 = .ok (.iconst 1, 1) := by decide +kernel
theorem dX9_safe_23 : decode cX9_safe 23 = .ok (.invokestatic 85, 3) := by decide +kernel
theorem dX9_safe_26 : decode cX9_safe 26 = .ok (.ifCond .ne 5, 3) := by decide +kernel
theorem dX9_safe_29 : decode cX9_safe 29 = .ok (.iconst (-1), 1) := by decide +kernel
theorem dX9_safe_30 : decode cX9_safe 30 = .ok (.ireturn, 1) := by decide +kernel
theorem dX9_safe_31 : decode cX9_safe 31 = .ok (.aload_n 0, 1) := by decide +kernel
theorem dX9_safe_32 : decode cX9_safe 32 = .ok (.getfield 54, 3) := by decide +kernel
theorem dX9_safe_35 : decode cX9_safe 35 = .ok (.aload_n 0, 1) := by decide +kernel
theorem dX9_safe_36 : decode cX9_safe 36 = .ok (.getfield 12, 3) := by decide +kernel
theorem dX9_safe_39 : decode cX9_safe 39 = .ok (.aload_n 0, 1) := by decide +kernel
theorem dX9_safe_40 : decode cX9_safe 40 = .ok (.getfield 31, 3) := by decide +kernel
theorem dX9_safe_43 : decode cX9_safe 43 = .ok (.iconst 0, 1) := by decide +kernel
theorem dX9_safe_44 : decode cX9_safe 44 = .ok (.aaload, 1) := by decide +kernel
theorem dX9_safe_45 : decode cX9_safe 45 = .ok (.invokevirtual 132, 3) := by decide +kernel
theorem dX9_safe_48 : decode cX9_safe 48 = .ok (.aload_n 0, 1) := by decide +kernel
theorem dX9_safe_49 : decode cX9_safe 49 = .ok (.getfield 54, 3) := by decide +kernel
theorem dX9_safe_52 : decode cX9_safe 52 = .ok (.invokevirtual 158, 3) := by decide +kernel
theorem dX9_safe_55 : decode cX9_safe 55 = .ok (.aload_n 0, 1) := by decide +kernel
theorem dX9_safe_56 : decode cX9_safe 56 = .ok (.getfield 70, 3) := by decide +kernel
theorem dX9_safe_59 : decode cX9_safe 59 = .ok (.aload_n 0, 1) := by decide +kernel
theorem dX9_safe_60 : decode cX9_safe 60 = .ok (.getfield 12, 3) := by decide +kernel
theorem dX9_safe_63 : decode cX9_safe 63 = .ok (.getfield 164, 3) := by decide +kernel
theorem dX9_safe_66 : decode cX9_safe 66 = .ok (.iload_n 1, 1) := by decide +kernel
theorem dX9_safe_67 : decode cX9_safe 67 = .ok (.iaload, 1) := by decide +kernel
theorem dX9_safe_68 : decode cX9_safe 68 = .ok (.aload_n 0, 1) := by decide +kernel
theorem dX9_safe_69 : decode cX9_safe 69 = .ok (.getfield 12, 3) := by decide +kernel
theorem dX9_safe_72 : decode cX9_safe 72 = .ok (.getfield 152, 3) := by decide +kernel
theorem dX9_safe_75 : decode cX9_safe 75 = .ok (.iload_n 1, 1) := by decide +kernel
theorem dX9_safe_76 : decode cX9_safe 76 = .ok (.iaload, 1) := by decide +kernel
theorem dX9_safe_77 : decode cX9_safe 77 = .ok (.iload_n 2, 1) := by decide +kernel
theorem dX9_safe_78 : decode cX9_safe 78 = .ok (.invokevirtual 202, 3) := by decide +kernel
theorem dX9_safe_81 : decode cX9_safe 81 = .ok (.ifCond .ne 6, 3) := by decide +kernel
theorem dX9_safe_84 : decode cX9_safe 84 = .ok (.bipush (-2), 2) := by decide +kernel
theorem dX9_safe_86 : decode cX9_safe 86 = .ok (.ireturn, 1) := by decide +kernel
theorem dX9_safe_87 : decode cX9_safe 87 = .ok (.iload_n 3, 1) := by decide +kernel
theorem dX9_safe_88 : decode cX9_safe 88 = .ok (.ifCond .ne 13, 3) := by decide +kernel
theorem dX9_safe_91 : decode cX9_safe 91 = .ok (.aload_n 0, 1) := by decide +kernel
theorem dX9_safe_92 : decode cX9_safe 92 = .ok (.getfield 70, 3) := by decide +kernel
theorem dX9_safe_95 : decode cX9_safe 95 = .ok (.getfield 204, 3) := by decide +kernel
theorem dX9_safe_98 : decode cX9_safe 98 = .ok (.goto 10, 3) := by decide +kernel
theorem dX9_safe_101 : decode cX9_safe 101 = .ok (.aload_n 0, 1) := by decide +kernel
theorem dX9_safe_102 : decode cX9_safe 102 = .ok (.getfield 70, 3) := by decide +kernel
theorem dX9_safe_105 : decode cX9_safe 105 = .ok (.getfield 206, 3) := by decide +kernel
theorem dX9_safe_108 : decode cX9_safe 108 = .ok (.ireturn, 1) := by decide +kernel
theorem dX9_cut_0 : decode cX9_cut 0 = .ok (.aload_n 0, 1) := by decide +kernel
theorem dX9_cut_1 : decode cX9_cut 1 = .ok (.getfield 12, 3) := by decide +kernel
theorem dX9_cut_4 : decode cX9_cut 4 = .ok (.iload_n 1, 1) := by decide +kernel
theorem dX9_cut_5 : decode cX9_cut 5 = .ok (.invokevirtual 149, 3) := by decide +kernel
theorem dX9_cut_8 : decode cX9_cut 8 = .ok (.ifCond .eq 22, 3) := by decide +kernel
theorem dX9_cut_11 : decode cX9_cut 11 = .ok (.aload_n 0, 1) := by decide +kernel
theorem dX9_cut_12 : decode cX9_cut 12 = .ok (.getfield 12, 3) := by decide +kernel
theorem dX9_cut_15 : decode cX9_cut 15 = .ok (.aload_n 0, 1) := by decide +kernel
theorem dX9_cut_16 : decode cX9_cut 16 = .ok (.getfield 12, 3) := by decide +kernel
theorem dX9_cut_19 : decode cX9_cut 19 = .ok (.getfield 164, 3) := by decide +kernel
theorem dX9_cut_22 : decode cX9_cut 22 = .ok (.iload_n 1, 1) := by decide +kernel
theorem dX9_cut_23 : decode cX9_cut 23 = .ok (.iaload, 1) := by decide +kernel
theorem dX9_cut_24 : decode cX9_cut 24 = .ok (.invokevirtual 97, 3) := by decide +kernel
theorem dX9_cut_27 : decode cX9_cut 27 = .ok (.ifCond .ne 5, 3) := by decide +kernel
theorem dX9_cut_30 : decode cX9_cut 30 = .ok (.iconst (-1), 1) := by decide +kernel
theorem dX9_cut_31 : decode cX9_cut 31 = .ok (.ireturn, 1) := by decide +kernel
theorem dX9_cut_32 : decode cX9_cut 32 = .ok (.aload_n 0, 1) := by decide +kernel
theorem dX9_cut_33 : decode cX9_cut 33 = .ok (.getfield 54, 3) := by decide +kernel
theorem dX9_cut_36 : decode cX9_cut 36 = .ok (.aload_n 0, 1) := by decide +kernel
theorem dX9_cut_37 : decode cX9_cut 37 = .ok (.getfield 12, 3) := by decide +kernel
theorem dX9_cut_40 : decode cX9_cut 40 = .ok (.aload_n 0, 1) := by decide +kernel
theorem dX9_cut_41 : decode cX9_cut 41 = .ok (.getfield 31, 3) := by decide +kernel
theorem dX9_cut_44 : decode cX9_cut 44 = .ok (.iconst 0, 1) := by decide +kernel
theorem dX9_cut_45 : decode cX9_cut 45 = .ok (.aaload, 1) := by decide +kernel
theorem dX9_cut_46 : decode cX9_cut 46 = .ok (.invokevirtual 132, 3) := by decide +kernel
theorem dX9_cut_49 : decode cX9_cut 49 = .ok (.aload_n 0, 1) := by decide +kernel
theorem dX9_cut_50 : decode cX9_cut 50 = .ok (.getfield 54, 3) := by decide +kernel
theorem dX9_cut_53 : decode cX9_cut 53 = .ok (.aload_n 0, 1) := by decide +kernel
theorem dX9_cut_54 : decode cX9_cut 54 = .ok (.getfield 12, 3) := by decide +kernel
theorem dX9_cut_57 : decode cX9_cut 57 = .ok (.getfield 164, 3) := by decide +kernel
theorem dX9_cut_60 : decode cX9_cut 60 = .ok (.iload_n 1, 1) := by decide +kernel
theorem dX9_cut_61 : decode cX9_cut 61 = .ok (.iaload, 1) := by decide +kernel
theorem dX9_cut_62 : decode cX9_cut 62 = .ok (.ldc 209, 2) := by decide +kernel
theorem dX9_cut_64 : decode cX9_cut 64 = .ok (.invokevirtual 167, 3) := by decide +kernel
theorem dX9_cut_67 : decode cX9_cut 67 = .ok (.ifCond .eq 6, 3) := by decide +kernel
theorem dX9_cut_70 : decode cX9_cut 70 = .ok (.bipush (-2), 2) := by decide +kernel
theorem dX9_cut_72 : decode cX9_cut 72 = .ok (.ireturn, 1) := by decide +kernel
theorem dX9_cut_73 : decode cX9_cut 73 = .ok (.aload_n 0, 1) := by decide +kernel
theorem dX9_cut_74 : decode cX9_cut 74 = .ok (.getfield 54, 3) := by decide +kernel
theorem dX9_cut_77 : decode cX9_cut 77 = .ok (.aload_n 0, 1) := by decide +kernel
theorem dX9_cut_78 : decode cX9_cut 78 = .ok (.getfield 12, 3) := by decide +kernel
theorem dX9_cut_81 : decode cX9_cut 81 = .ok (.getfield 164, 3) := by decide +kernel
theorem dX9_cut_84 : decode cX9_cut 84 = .ok (.iload_n 1, 1) := by decide +kernel
theorem dX9_cut_85 : decode cX9_cut 85 = .ok (.iaload, 1) := by decide +kernel
theorem dX9_cut_86 : decode cX9_cut 86 = .ok (.ldc 209, 2) := by decide +kernel
theorem dX9_cut_88 : decode cX9_cut 88 = .ok (.invokevirtual 210, 3) := by decide +kernel
theorem dX9_cut_91 : decode cX9_cut 91 = .ok (.ireturn, 1) := by decide +kernel
theorem dX9_soonest_0 : decode cX9_soonest 0 = .ok (.aload_n 0, 1) := by decide +kernel
theorem dX9_soonest_1 : decode cX9_soonest 1 = .ok (.getfield 12, 3) := by decide +kernel
theorem dX9_soonest_4 : decode cX9_soonest 4 = .ok (.iload_n 1, 1) := by decide +kernel
theorem dX9_soonest_5 : decode cX9_soonest 5 = .ok (.invokevirtual 149, 3) := by decide +kernel
theorem dX9_soonest_8 : decode cX9_soonest 8 = .ok (.ifCond .ne 5, 3) := by decide +kernel
theorem dX9_soonest_11 : decode cX9_soonest 11 = .ok (.iconst (-1), 1) := by decide +kernel
theorem dX9_soonest_12 : decode cX9_soonest 12 = .ok (.ireturn, 1) := by decide +kernel
theorem dX9_soonest_13 : decode cX9_soonest 13 = .ok (.aload_n 0, 1) := by decide +kernel
theorem dX9_soonest_14 : decode cX9_soonest 14 = .ok (.getfield 19, 3) := by decide +kernel
theorem dX9_soonest_17 : decode cX9_soonest 17 = .ok (.aload_n 0, 1) := by decide +kernel
theorem dX9_soonest_18 : decode cX9_soonest 18 = .ok (.getfield 12, 3) := by decide +kernel
theorem dX9_soonest_21 : decode cX9_soonest 21 = .ok (.invokevirtual 178, 3) := by decide +kernel
theorem dX9_soonest_24 : decode cX9_soonest 24 = .ok (.iconst 0, 1) := by decide +kernel
theorem dX9_soonest_25 : decode cX9_soonest 25 = .ok (.istore_n 2, 1) := by decide +kernel
theorem dX9_soonest_26 : decode cX9_soonest 26 = .ok (.iload_n 2, 1) := by decide +kernel
theorem dX9_soonest_27 : decode cX9_soonest 27 = .ok (.bipush 60, 2) := by decide +kernel
theorem dX9_soonest_29 : decode cX9_soonest 29 = .ok (.if_icmp .gt 59, 3) := by decide +kernel
theorem dX9_soonest_32 : decode cX9_soonest 32 = .ok (.aload_n 0, 1) := by decide +kernel
theorem dX9_soonest_33 : decode cX9_soonest 33 = .ok (.getfield 54, 3) := by decide +kernel
theorem dX9_soonest_36 : decode cX9_soonest 36 = .ok (.aload_n 0, 1) := by decide +kernel
theorem dX9_soonest_37 : decode cX9_soonest 37 = .ok (.getfield 19, 3) := by decide +kernel
theorem dX9_soonest_40 : decode cX9_soonest 40 = .ok (.aload_n 0, 1) := by decide +kernel
theorem dX9_soonest_41 : decode cX9_soonest 41 = .ok (.getfield 31, 3) := by decide +kernel
theorem dX9_soonest_44 : decode cX9_soonest 44 = .ok (.iconst 0, 1) := by decide +kernel
theorem dX9_soonest_45 : decode cX9_soonest 45 = .ok (.aaload, 1) := by decide +kernel
theorem dX9_soonest_46 : decode cX9_soonest 46 = .ok (.invokevirtual 132, 3) := by decide +kernel
theorem dX9_soonest_49 : decode cX9_soonest 49 = .ok (.aload_n 0, 1) := by decide +kernel
theorem dX9_soonest_50 : decode cX9_soonest 50 = .ok (.getfield 54, 3) := by decide +kernel
theorem dX9_soonest_53 : decode cX9_soonest 53 = .ok (.aload_n 0, 1) := by decide +kernel
theorem dX9_soonest_54 : decode cX9_soonest 54 = .ok (.getfield 19, 3) := by decide +kernel
theorem dX9_soonest_57 : decode cX9_soonest 57 = .ok (.getfield 164, 3) := by decide +kernel
theorem dX9_soonest_60 : decode cX9_soonest 60 = .ok (.iload_n 1, 1) := by decide +kernel
theorem dX9_soonest_61 : decode cX9_soonest 61 = .ok (.iaload, 1) := by decide +kernel
theorem dX9_soonest_62 : decode cX9_soonest 62 = .ok (.ldc 209, 2) := by decide +kernel
theorem dX9_soonest_64 : decode cX9_soonest 64 = .ok (.invokevirtual 167, 3) := by decide +kernel
theorem dX9_soonest_67 : decode cX9_soonest 67 = .ok (.ifCond .eq 5, 3) := by decide +kernel
theorem dX9_soonest_70 : decode cX9_soonest 70 = .ok (.iload_n 2, 1) := by decide +kernel
theorem dX9_soonest_71 : decode cX9_soonest 71 = .ok (.ireturn, 1) := by decide +kernel
theorem dX9_soonest_72 : decode cX9_soonest 72 = .ok (.aload_n 0, 1) := by decide +kernel
theorem dX9_soonest_73 : decode cX9_soonest 73 = .ok (.aload_n 0, 1) := by decide +kernel
theorem dX9_soonest_74 : decode cX9_soonest 74 = .ok (.getfield 19, 3) := by decide +kernel
theorem dX9_soonest_77 : decode cX9_soonest 77 = .ok (.iconst 1, 1) := by decide +kernel
theorem dX9_soonest_78 : decode cX9_soonest 78 = .ok (.invokevirtual 174, 3) := by decide +kernel
theorem dX9_soonest_81 : decode cX9_soonest 81 = .ok (.pop, 1) := by decide +kernel
theorem dX9_soonest_82 : decode cX9_soonest 82 = .ok (.iinc 2 1, 3) := by decide +kernel
theorem dX9_soonest_85 : decode cX9_soonest 85 = .ok (.goto (-59), 3) := by decide +kernel
theorem dX9_soonest_88 : decode cX9_soonest 88 = .ok (.bipush (-2), 2) := by decide +kernel
theorem dX9_soonest_90 : decode cX9_soonest 90 = .ok (.ireturn, 1) := by decide +kernel
theorem dX9_against_0 : decode cX9_against 0 = .ok (.aload_n 0, 1) := by decide +kernel
theorem dX9_against_1 : decode cX9_against 1 = .ok (.getfield 12, 3) := by decide +kernel
theorem dX9_against_4 : decode cX9_against 4 = .ok (.iload_n 1, 1) := by decide +kernel
theorem dX9_against_5 : decode cX9_against 5 = .ok (.invokevirtual 149, 3) := by decide +kernel
theorem dX9_against_8 : decode cX9_against 8 = .ok (.ifCond .eq 23, 3) := by decide +kernel
theorem dX9_against_11 : decode cX9_against 11 = .ok (.aload_n 0, 1) := by decide +kernel
theorem dX9_against_12 : decode cX9_against 12 = .ok (.getfield 12, 3) := by decide +kernel
theorem dX9_against_15 : decode cX9_against 15 = .ok (.iload_n 2, 1) := by decide +kernel
theorem dX9_against_16 : decode cX9_against 16 = .ok (.invokevirtual 149, 3) := by decide +kernel
theorem dX9_against_19 : decode cX9_against 19 = .ok (.ifCond .eq 12, 3) := by decide +kernel
theorem dX9_against_22 : decode cX9_against 22 = .ok (.iload_n 1, 1) := by decide +kernel
theorem dX9_against_23 : decode cX9_against 23 = .ok (.iload_n 2, 1) := by decide +kernel
theorem dX9_against_24 : decode cX9_against 24 = .ok (.if_icmp .eq 7, 3) := by decide +kernel
theorem dX9_against_27 : decode cX9_against 27 = .ok (.iconst 1, 1) := by decide +kernel
theorem dX9_against_28 : decode cX9_against 28 = .ok (.goto 4, 3) := by decide +kernel
theorem dX9_against_31 : decode cX9_against 31 = .ok (.iconst 0, 1) := by decide +kernel
theorem dX9_against_32 : decode cX9_against 32 = .ok (.istore 5, 2) := by decide +kernel
theorem dX9_against_34 : decode cX9_against 34 = .ok (.iload 5, 2) := by decide +kernel
theorem dX9_against_36 : decode cX9_against 36 = .ok (.ifCond .eq 22, 3) := by decide +kernel
theorem dX9_against_39 : decode cX9_against 39 = .ok (.iload_n 3, 1) := by decide +kernel
theorem dX9_against_40 : decode cX9_against 40 = .ok (.iconst 1, 1) := by decide +kernel
theorem dX9_against_41 : decode cX9_against 41 = .ok (.iconst 4, 1) := by decide +kernel
theorem dX9_against_42 : decode cX9_against 42 = .ok (.invokestatic 85, 3) := by decide +kernel
theorem dX9_against_45 : decode cX9_against 45 = .ok (.ifCond .eq 13, 3) := by decide +kernel
theorem dX9_against_48 : decode cX9_against 48 = .ok (.iload 4, 2) := by decide +kernel
theorem dX9_against_50 : decode cX9_against 50 = .ok (.iconst 0, 1) := by decide +kernel
theorem dX9_against_51 : decode cX9_against 51 = .ok (.iconst 1, 1) := by decide +kernel
theorem dX9_against_52 : decode cX9_against 52 = .ok (.invokestatic 85, 3) := by decide +kernel
theorem dX9_against_55 : decode cX9_against 55 = .ok (.ifCond .ne 7, 3) := by decide +kernel
theorem dX9_against_58 : decode cX9_against 58 = .ok (.sipush (-1000), 3) := by decide +kernel
theorem dX9_against_61 : decode cX9_against 61 = .ok (.ireturn, 1) := by decide +kernel
theorem dX9_against_62 : decode cX9_against 62 = .ok (.aload_n 0, 1) := by decide +kernel
theorem dX9_against_63 : decode cX9_against 63 = .ok (.getfield 54, 3) := by decide +kernel
theorem dX9_against_66 : decode cX9_against 66 = .ok (.aload_n 0, 1) := by decide +kernel
theorem dX9_against_67 : decode cX9_against 67 = .ok (.getfield 12, 3) := by decide +kernel
theorem dX9_against_70 : decode cX9_against 70 = .ok (.aload_n 0, 1) := by decide +kernel
theorem dX9_against_71 : decode cX9_against 71 = .ok (.getfield 31, 3) := by decide +kernel
theorem dX9_against_74 : decode cX9_against 74 = .ok (.iconst 0, 1) := by decide +kernel
theorem dX9_against_75 : decode cX9_against 75 = .ok (.aaload, 1) := by decide +kernel
theorem dX9_against_76 : decode cX9_against 76 = .ok (.invokevirtual 132, 3) := by decide +kernel
theorem dX9_against_79 : decode cX9_against 79 = .ok (.aload_n 0, 1) := by decide +kernel
theorem dX9_against_80 : decode cX9_against 80 = .ok (.getfield 77, 3) := by decide +kernel
theorem dX9_against_83 : decode cX9_against 83 = .ok (.aload_n 0, 1) := by decide +kernel
theorem dX9_against_84 : decode cX9_against 84 = .ok (.getfield 12, 3) := by decide +kernel
theorem dX9_against_87 : decode cX9_against 87 = .ok (.iload_n 1, 1) := by decide +kernel
theorem dX9_against_88 : decode cX9_against 88 = .ok (.iload_n 2, 1) := by decide +kernel
theorem dX9_against_89 : decode cX9_against 89 = .ok (.iload_n 3, 1) := by decide +kernel
theorem dX9_against_90 : decode cX9_against 90 = .ok (.invokevirtual 213, 3) := by decide +kernel
theorem dX9_against_93 : decode cX9_against 93 = .ok (.istore 6, 2) := by decide +kernel
theorem dX9_against_95 : decode cX9_against 95 = .ok (.iload 4, 2) := by decide +kernel
theorem dX9_against_97 : decode cX9_against 97 = .ok (.ifCond .ne 8, 3) := by decide +kernel
theorem dX9_against_100 : decode cX9_against 100 = .ok (.iload 6, 2) := by decide +kernel
theorem dX9_against_102 : decode cX9_against 102 = .ok (.goto 10, 3) := by decide +kernel
theorem dX9_against_105 : decode cX9_against 105 = .ok (.aload_n 0, 1) := by decide +kernel
theorem dX9_against_106 : decode cX9_against 106 = .ok (.getfield 77, 3) := by decide +kernel
theorem dX9_against_109 : decode cX9_against 109 = .ok (.getfield 217, 3) := by decide +kernel
theorem dX9_against_112 : decode cX9_against 112 = .ok (.ireturn, 1) := by decide +kernel
theorem dX9_whom_0 : decode cX9_whom 0 = .ok (.iload_n 1, 1) := by decide +kernel
theorem dX9_whom_1 : decode cX9_whom 1 = .ok (.invokestatic 185, 3) := by decide +kernel
theorem dX9_whom_4 : decode cX9_whom 4 = .ok (.istore 4, 2) := by decide +kernel
theorem dX9_whom_6 : decode cX9_whom 6 = .ok (.iload_n 1, 1) := by decide +kernel
theorem dX9_whom_7 : decode cX9_whom 7 = .ok (.aload_n 0, 1) := by decide +kernel
theorem dX9_whom_8 : decode cX9_whom 8 = .ok (.getfield 12, 3) := by decide +kernel
theorem dX9_whom_11 : decode cX9_whom 11 = .ok (.getfield 104, 3) := by decide +kernel
theorem dX9_whom_14 : decode cX9_whom 14 = .ok (.iconst (-1), 1) := by decide +kernel
theorem dX9_whom_15 : decode cX9_whom 15 = .ok (.ixor, 1) := by decide +kernel
theorem dX9_whom_16 : decode cX9_whom 16 = .ok (.iand, 1) := by decide +kernel
theorem dX9_whom_17 : decode cX9_whom 17 = .ok (.ifCond .ne 29, 3) := by decide +kernel
theorem dX9_whom_20 : decode cX9_whom 20 = .ok (.iload 4, 2) := by decide +kernel
theorem dX9_whom_22 : decode cX9_whom 22 = .ok (.bipush 8, 2) := by decide +kernel
theorem dX9_whom_24 : decode cX9_whom 24 = .ok (.if_icmp .gt 22, 3) := by decide +kernel
theorem dX9_whom_27 : decode cX9_whom 27 = .ok (.iload_n 2, 1) := by decide +kernel
theorem dX9_whom_28 : decode cX9_whom 28 = .ok (.iconst 1, 1) := by decide +kernel
theorem dX9_whom_29 : decode cX9_whom 29 = .ok (.iconst 4, 1) := by decide +kernel
theorem dX9_whom_30 : decode cX9_whom 30 = .ok (.invokestatic 85, 3) := by decide +kernel
theorem dX9_whom_33 : decode cX9_whom 33 = .ok (.ifCond .eq 13, 3) := by decide +kernel
theorem dX9_whom_36 : decode cX9_whom 36 = .ok (.iload_n 2, 1) := by decide +kernel
theorem dX9_whom_37 : decode cX9_whom 37 = .ok (.iload 4, 2) := by decide +kernel
theorem dX9_whom_39 : decode cX9_whom 39 = .ok (.if_icmp .gt 7, 3) := by decide +kernel
theorem dX9_whom_42 : decode cX9_whom 42 = .ok (.iconst 1, 1) := by decide +kernel
theorem dX9_whom_43 : decode cX9_whom 43 = .ok (.goto 4, 3) := by decide +kernel
theorem dX9_whom_46 : decode cX9_whom 46 = .ok (.iconst 0, 1) := by decide +kernel
theorem dX9_whom_47 : decode cX9_whom 47 = .ok (.istore 5, 2) := by decide +kernel
theorem dX9_whom_49 : decode cX9_whom 49 = .ok (.iload 5, 2) := by decide +kernel
theorem dX9_whom_51 : decode cX9_whom 51 = .ok (.ifCond .eq 12, 3) := by decide +kernel
theorem dX9_whom_54 : decode cX9_whom 54 = .ok (.iload_n 3, 1) := by decide +kernel
theorem dX9_whom_55 : decode cX9_whom 55 = .ok (.iconst 0, 1) := by decide +kernel
theorem dX9_whom_56 : decode cX9_whom 56 = .ok (.iconst 1, 1) := by decide +kernel
theorem dX9_whom_57 : decode cX9_whom 57 = .ok (.invokestatic 85, 3) := by decide +kernel
theorem dX9_whom_60 : decode cX9_whom 60 = .ok (.ifCond .ne 5, 3) := by decide +kernel
theorem dX9_whom_63 : decode cX9_whom 63 = .ok (.iconst (-1), 1) := by decide +kernel
theorem dX9_whom_64 : decode cX9_whom 64 = .ok (.ireturn, 1) := by decide +kernel
theorem dX9_whom_65 : decode cX9_whom 65 = .ok (.aload_n 0, 1) := by decide +kernel
theorem dX9_whom_66 : decode cX9_whom 66 = .ok (.getfield 54, 3) := by decide +kernel
theorem dX9_whom_69 : decode cX9_whom 69 = .ok (.aload_n 0, 1) := by decide +kernel
theorem dX9_whom_70 : decode cX9_whom 70 = .ok (.getfield 12, 3) := by decide +kernel
theorem dX9_whom_73 : decode cX9_whom 73 = .ok (.aload_n 0, 1) := by decide +kernel
theorem dX9_whom_74 : decode cX9_whom 74 = .ok (.getfield 31, 3) := by decide +kernel
theorem dX9_whom_77 : decode cX9_whom 77 = .ok (.iconst 0, 1) := by decide +kernel
theorem dX9_whom_78 : decode cX9_whom 78 = .ok (.aaload, 1) := by decide +kernel
theorem dX9_whom_79 : decode cX9_whom 79 = .ok (.invokevirtual 132, 3) := by decide +kernel
theorem dX9_whom_82 : decode cX9_whom 82 = .ok (.iconst (-1), 1) := by decide +kernel
theorem dX9_whom_83 : decode cX9_whom 83 = .ok (.istore 6, 2) := by decide +kernel
theorem dX9_whom_85 : decode cX9_whom 85 = .ok (.iconst 0, 1) := by decide +kernel
theorem dX9_whom_86 : decode cX9_whom 86 = .ok (.istore 7, 2) := by decide +kernel
theorem dX9_whom_88 : decode cX9_whom 88 = .ok (.iconst 0, 1) := by decide +kernel
theorem dX9_whom_89 : decode cX9_whom 89 = .ok (.istore 8, 2) := by decide +kernel
theorem dX9_whom_91 : decode cX9_whom 91 = .ok (.iconst 1, 1) := by decide +kernel
theorem dX9_whom_92 : decode cX9_whom 92 = .ok (.istore 9, 2) := by decide +kernel
theorem dX9_whom_94 : decode cX9_whom 94 = .ok (.iload 9, 2) := by decide +kernel
theorem dX9_whom_96 : decode cX9_whom 96 = .ok (.iconst 1, 1) := by decide +kernel
theorem dX9_whom_97 : decode cX9_whom 97 = .ok (.iload 4, 2) := by decide +kernel
theorem dX9_whom_99 : decode cX9_whom 99 = .ok (.ishl, 1) := by decide +kernel
theorem dX9_whom_100 : decode cX9_whom 100 = .ok (.if_icmp .ge 55, 3) := by decide +kernel
theorem dX9_whom_103 : decode cX9_whom 103 = .ok (.iload 8, 2) := by decide +kernel
theorem dX9_whom_105 : decode cX9_whom 105 = .ok (.iload_n 1, 1) := by decide +kernel
theorem dX9_whom_106 : decode cX9_whom 106 = .ok (.invokestatic 220, 3) := by decide +kernel
theorem dX9_whom_109 : decode cX9_whom 109 = .ok (.istore 8, 2) := by decide +kernel
theorem dX9_whom_111 : decode cX9_whom 111 = .ok (.iload 8, 2) := by decide +kernel
theorem dX9_whom_113 : decode cX9_whom 113 = .ok (.invokestatic 185, 3) := by decide +kernel
theorem dX9_whom_116 : decode cX9_whom 116 = .ok (.iload_n 2, 1) := by decide +kernel
theorem dX9_whom_117 : decode cX9_whom 117 = .ok (.if_icmp .ne 32, 3) := by decide +kernel
theorem dX9_whom_120 : decode cX9_whom 120 = .ok (.aload_n 0, 1) := by decide +kernel
theorem dX9_whom_121 : decode cX9_whom 121 = .ok (.getfield 54, 3) := by decide +kernel
theorem dX9_whom_124 : decode cX9_whom 124 = .ok (.iload 8, 2) := by decide +kernel
theorem dX9_whom_126 : decode cX9_whom 126 = .ok (.invokevirtual 223, 3) := by decide +kernel
theorem dX9_whom_129 : decode cX9_whom 129 = .ok (.invokestatic 185, 3) := by decide +kernel
theorem dX9_whom_132 : decode cX9_whom 132 = .ok (.istore 10, 2) := by decide +kernel
theorem dX9_whom_134 : decode cX9_whom 134 = .ok (.iload 10, 2) := by decide +kernel
theorem dX9_whom_136 : decode cX9_whom 136 = .ok (.iload 6, 2) := by decide +kernel
theorem dX9_whom_138 : decode cX9_whom 138 = .ok (.if_icmp .le 11, 3) := by decide +kernel
theorem dX9_whom_141 : decode cX9_whom 141 = .ok (.iload 10, 2) := by decide +kernel
theorem dX9_whom_143 : decode cX9_whom 143 = .ok (.istore 6, 2) := by decide +kernel
theorem dX9_whom_145 : decode cX9_whom 145 = .ok (.iload 8, 2) := by decide +kernel
theorem dX9_whom_147 : decode cX9_whom 147 = .ok (.istore 7, 2) := by decide +kernel
theorem dX9_whom_149 : decode cX9_whom 149 = .ok (.iinc 9 1, 3) := by decide +kernel
theorem dX9_whom_152 : decode cX9_whom 152 = .ok (.goto (-58), 3) := by decide +kernel
theorem dX9_whom_155 : decode cX9_whom 155 = .ok (.iload_n 3, 1) := by decide +kernel
theorem dX9_whom_156 : decode cX9_whom 156 = .ok (.ifCond .ne 8, 3) := by decide +kernel
theorem dX9_whom_159 : decode cX9_whom 159 = .ok (.iload 6, 2) := by decide +kernel
theorem dX9_whom_161 : decode cX9_whom 161 = .ok (.goto 5, 3) := by decide +kernel
theorem dX9_whom_164 : decode cX9_whom 164 = .ok (.iload 7, 2) := by decide +kernel
theorem dX9_whom_166 : decode cX9_whom 166 = .ok (.ireturn, 1) := by decide +kernel
theorem dX9_sure_0 : decode cX9_sure 0 = .ok (.aload_n 0, 1) := by decide +kernel
theorem dX9_sure_1 : decode cX9_sure 1 = .ok (.getfield 12, 3) := by decide +kernel
theorem dX9_sure_4 : decode cX9_sure 4 = .ok (.iload_n 1, 1) := by decide +kernel
theorem dX9_sure_5 : decode cX9_sure 5 = .ok (.invokevirtual 149, 3) := by decide +kernel
theorem dX9_sure_8 : decode cX9_sure 8 = .ok (.ifCond .ne 5, 3) := by decide +kernel
theorem dX9_sure_11 : decode cX9_sure 11 = .ok (.iconst (-1), 1) := by decide +kernel
theorem dX9_sure_12 : decode cX9_sure 12 = .ok (.ireturn, 1) := by decide +kernel
theorem dX9_sure_13 : decode cX9_sure 13 = .ok (.aload_n 0, 1) := by decide +kernel
theorem dX9_sure_14 : decode cX9_sure 14 = .ok (.getfield 54, 3) := by decide +kernel
theorem dX9_sure_17 : decode cX9_sure 17 = .ok (.aload_n 0, 1) := by decide +kernel
theorem dX9_sure_18 : decode cX9_sure 18 = .ok (.getfield 12, 3) := by decide +kernel
theorem dX9_sure_21 : decode cX9_sure 21 = .ok (.aload_n 0, 1) := by decide +kernel
theorem dX9_sure_22 : decode cX9_sure 22 = .ok (.getfield 31, 3) := by decide +kernel
theorem dX9_sure_25 : decode cX9_sure 25 = .ok (.iconst 0, 1) := by decide +kernel
theorem dX9_sure_26 : decode cX9_sure 26 = .ok (.aaload, 1) := by decide +kernel
theorem dX9_sure_27 : decode cX9_sure 27 = .ok (.invokevirtual 132, 3) := by decide +kernel
theorem dX9_sure_30 : decode cX9_sure 30 = .ok (.aload_n 0, 1) := by decide +kernel
theorem dX9_sure_31 : decode cX9_sure 31 = .ok (.getfield 54, 3) := by decide +kernel
theorem dX9_sure_34 : decode cX9_sure 34 = .ok (.aload_n 0, 1) := by decide +kernel
theorem dX9_sure_35 : decode cX9_sure 35 = .ok (.getfield 12, 3) := by decide +kernel
theorem dX9_sure_38 : decode cX9_sure 38 = .ok (.getfield 164, 3) := by decide +kernel
theorem dX9_sure_41 : decode cX9_sure 41 = .ok (.iload_n 1, 1) := by decide +kernel
theorem dX9_sure_42 : decode cX9_sure 42 = .ok (.iaload, 1) := by decide +kernel
theorem dX9_sure_43 : decode cX9_sure 43 = .ok (.aload_n 0, 1) := by decide +kernel
theorem dX9_sure_44 : decode cX9_sure 44 = .ok (.getfield 12, 3) := by decide +kernel
theorem dX9_sure_47 : decode cX9_sure 47 = .ok (.getfield 152, 3) := by decide +kernel
theorem dX9_sure_50 : decode cX9_sure 50 = .ok (.iload_n 1, 1) := by decide +kernel
theorem dX9_sure_51 : decode cX9_sure 51 = .ok (.iaload, 1) := by decide +kernel
theorem dX9_sure_52 : decode cX9_sure 52 = .ok (.iconst 1, 1) := by decide +kernel
theorem dX9_sure_53 : decode cX9_sure 53 = .ok (.invokevirtual 226, 3) := by decide +kernel
theorem dX9_sure_56 : decode cX9_sure 56 = .ok (.ifCond .eq 7, 3) := by decide +kernel
theorem dX9_sure_59 : decode cX9_sure 59 = .ok (.iconst 1, 1) := by decide +kernel
theorem dX9_sure_60 : decode cX9_sure 60 = .ok (.goto 4, 3) := by decide +kernel
theorem dX9_sure_63 : decode cX9_sure 63 = .ok (.iconst 0, 1) := by decide +kernel
theorem dX9_sure_64 : decode cX9_sure 64 = .ok (.ireturn, 1) := by decide +kernel
theorem dX9_found_0 : decode cX9_found 0 = .ok (.iconst 1, 1) := by decide +kernel
theorem dX9_found_1 : decode cX9_found 1 = .ok (.aload_n 0, 1) := by decide +kernel
theorem dX9_found_2 : decode cX9_found 2 = .ok (.getfield 12, 3) := by decide +kernel
theorem dX9_found_5 : decode cX9_found 5 = .ok (.getfield 143, 3) := by decide +kernel
theorem dX9_found_8 : decode cX9_found 8 = .ok (.ishl, 1) := by decide +kernel
theorem dX9_found_9 : decode cX9_found 9 = .ok (.iconst 1, 1) := by decide +kernel
theorem dX9_found_10 : decode cX9_found 10 = .ok (.isub, 1) := by decide +kernel
theorem dX9_found_11 : decode cX9_found 11 = .ok (.istore_n 2, 1) := by decide +kernel
theorem dX9_found_12 : decode cX9_found 12 = .ok (.iload_n 1, 1) := by decide +kernel
theorem dX9_found_13 : decode cX9_found 13 = .ok (.iload_n 2, 1) := by decide +kernel
theorem dX9_found_14 : decode cX9_found 14 = .ok (.iconst (-1), 1) := by decide +kernel
theorem dX9_found_15 : decode cX9_found 15 = .ok (.ixor, 1) := by decide +kernel
theorem dX9_found_16 : decode cX9_found 16 = .ok (.iand, 1) := by decide +kernel
theorem dX9_found_17 : decode cX9_found 17 = .ok (.ifCond .ne 16, 3) := by decide +kernel
theorem dX9_found_20 : decode cX9_found 20 = .ok (.iload_n 1, 1) := by decide +kernel
theorem dX9_found_21 : decode cX9_found 21 = .ok (.ifCond .eq 12, 3) := by decide +kernel
theorem dX9_found_24 : decode cX9_found 24 = .ok (.aload_n 0, 1) := by decide +kernel
theorem dX9_found_25 : decode cX9_found 25 = .ok (.getfield 229, 3) := by decide +kernel
theorem dX9_found_28 : decode cX9_found 28 = .ok (.bipush 12, 2) := by decide +kernel
theorem dX9_found_30 : decode cX9_found 30 = .ok (.if_icmp .lt 5, 3) := by decide +kernel
theorem dX9_found_33 : decode cX9_found 33 = .ok (.iconst (-1), 1) := by decide +kernel
theorem dX9_found_34 : decode cX9_found 34 = .ok (.ireturn, 1) := by decide +kernel
theorem dX9_found_35 : decode cX9_found 35 = .ok (.aload_n 0, 1) := by decide +kernel
theorem dX9_found_36 : decode cX9_found 36 = .ok (.getfield 81, 3) := by decide +kernel
theorem dX9_found_39 : decode cX9_found 39 = .ok (.aload_n 0, 1) := by decide +kernel
theorem dX9_found_40 : decode cX9_found 40 = .ok (.getfield 229, 3) := by decide +kernel
theorem dX9_found_43 : decode cX9_found 43 = .ok (.iload_n 1, 1) := by decide +kernel
theorem dX9_found_44 : decode cX9_found 44 = .ok (.iastore, 1) := by decide +kernel
theorem dX9_found_45 : decode cX9_found 45 = .ok (.aload_n 0, 1) := by decide +kernel
theorem dX9_found_46 : decode cX9_found 46 = .ok (.dup, 1) := by decide +kernel
theorem dX9_found_47 : decode cX9_found 47 = .ok (.getfield 229, 3) := by decide +kernel
theorem dX9_found_50 : decode cX9_found 50 = .ok (.iconst 1, 1) := by decide +kernel
theorem dX9_found_51 : decode cX9_found 51 = .ok (.iadd, 1) := by decide +kernel
theorem dX9_found_52 : decode cX9_found 52 = .ok (.putfield 229, 3) := by decide +kernel
theorem dX9_found_55 : decode cX9_found 55 = .ok (.aload_n 0, 1) := by decide +kernel
theorem dX9_found_56 : decode cX9_found 56 = .ok (.getfield 229, 3) := by decide +kernel
theorem dX9_found_59 : decode cX9_found 59 = .ok (.ireturn, 1) := by decide +kernel
theorem dX9_least_0 : decode cX9_least 0 = .ok (.sipush 4095, 3) := by decide +kernel
theorem dX9_least_3 : decode cX9_least 3 = .ok (.istore_n 1, 1) := by decide +kernel
theorem dX9_least_4 : decode cX9_least 4 = .ok (.bipush 13, 2) := by decide +kernel
theorem dX9_least_6 : decode cX9_least 6 = .ok (.istore_n 2, 1) := by decide +kernel
theorem dX9_least_7 : decode cX9_least 7 = .ok (.iconst 0, 1) := by decide +kernel
theorem dX9_least_8 : decode cX9_least 8 = .ok (.istore_n 3, 1) := by decide +kernel
theorem dX9_least_9 : decode cX9_least 9 = .ok (.iload_n 3, 1) := by decide +kernel
theorem dX9_least_10 : decode cX9_least 10 = .ok (.sipush 4096, 3) := by decide +kernel
theorem dX9_least_13 : decode cX9_least 13 = .ok (.if_icmp .ge 34, 3) := by decide +kernel
theorem dX9_least_16 : decode cX9_least 16 = .ok (.iload_n 3, 1) := by decide +kernel
theorem dX9_least_17 : decode cX9_least 17 = .ok (.invokestatic 185, 3) := by decide +kernel
theorem dX9_least_20 : decode cX9_least 20 = .ok (.istore 4, 2) := by decide +kernel
theorem dX9_least_22 : decode cX9_least 22 = .ok (.iload 4, 2) := by decide +kernel
theorem dX9_least_24 : decode cX9_least 24 = .ok (.iload_n 2, 1) := by decide +kernel
theorem dX9_least_25 : decode cX9_least 25 = .ok (.if_icmp .ge 16, 3) := by decide +kernel
theorem dX9_least_28 : decode cX9_least 28 = .ok (.aload_n 0, 1) := by decide +kernel
theorem dX9_least_29 : decode cX9_least 29 = .ok (.iload_n 3, 1) := by decide +kernel
theorem dX9_least_30 : decode cX9_least 30 = .ok (.invokevirtual 232, 3) := by decide +kernel
theorem dX9_least_33 : decode cX9_least 33 = .ok (.ifCond .eq 8, 3) := by decide +kernel
theorem dX9_least_36 : decode cX9_least 36 = .ok (.iload_n 3, 1) := by decide +kernel
theorem dX9_least_37 : decode cX9_least 37 = .ok (.istore_n 1, 1) := by decide +kernel
theorem dX9_least_38 : decode cX9_least 38 = .ok (.iload 4, 2) := by decide +kernel
theorem dX9_least_40 : decode cX9_least 40 = .ok (.istore_n 2, 1) := by decide +kernel
theorem dX9_least_41 : decode cX9_least 41 = .ok (.iinc 3 1, 3) := by decide +kernel
theorem dX9_least_44 : decode cX9_least 44 = .ok (.goto (-35), 3) := by decide +kernel
theorem dX9_least_47 : decode cX9_least 47 = .ok (.iload_n 1, 1) := by decide +kernel
theorem dX9_least_48 : decode cX9_least 48 = .ok (.ireturn, 1) := by decide +kernel
theorem dX9_sideBySide_0 : decode cX9_sideBySide 0 = .ok (.iload_n 1, 1) := by decide +kernel
theorem dX9_sideBySide_1 : decode cX9_sideBySide 1 = .ok (.iconst 0, 1) := by decide +kernel
theorem dX9_sideBySide_2 : decode cX9_sideBySide 2 = .ok (.iconst 1, 1) := by decide +kernel
theorem dX9_sideBySide_3 : decode cX9_sideBySide 3 = .ok (.invokestatic 85, 3) := by decide +kernel
theorem dX9_sideBySide_6 : decode cX9_sideBySide 6 = .ok (.ifCond .ne 5, 3) := by decide +kernel
theorem dX9_sideBySide_9 : decode cX9_sideBySide 9 = .ok (.iconst (-1), 1) := by decide +kernel
theorem dX9_sideBySide_10 : decode cX9_sideBySide 10 = .ok (.ireturn, 1) := by decide +kernel
theorem dX9_sideBySide_11 : decode cX9_sideBySide 11 = .ok (.aload_n 0, 1) := by decide +kernel
theorem dX9_sideBySide_12 : decode cX9_sideBySide 12 = .ok (.aload_n 0, 1) := by decide +kernel
theorem dX9_sideBySide_13 : decode cX9_sideBySide 13 = .ok (.getfield 12, 3) := by decide +kernel
theorem dX9_sideBySide_16 : decode cX9_sideBySide 16 = .ok (.aload_n 0, 1) := by decide +kernel
theorem dX9_sideBySide_17 : decode cX9_sideBySide 17 = .ok (.getfield 31, 3) := by decide +kernel
theorem dX9_sideBySide_20 : decode cX9_sideBySide 20 = .ok (.iload_n 1, 1) := by decide +kernel
theorem dX9_sideBySide_21 : decode cX9_sideBySide 21 = .ok (.aaload, 1) := by decide +kernel
theorem dX9_sideBySide_22 : decode cX9_sideBySide 22 = .ok (.invokevirtual 181, 3) := by decide +kernel
theorem dX9_sideBySide_25 : decode cX9_sideBySide 25 = .ok (.istore_n 2, 1) := by decide +kernel
theorem dX9_sideBySide_26 : decode cX9_sideBySide 26 = .ok (.aload_n 0, 1) := by decide +kernel
theorem dX9_sideBySide_27 : decode cX9_sideBySide 27 = .ok (.aload_n 0, 1) := by decide +kernel
theorem dX9_sideBySide_28 : decode cX9_sideBySide 28 = .ok (.getfield 12, 3) := by decide +kernel
theorem dX9_sideBySide_31 : decode cX9_sideBySide 31 = .ok (.aload_n 0, 1) := by decide +kernel
theorem dX9_sideBySide_32 : decode cX9_sideBySide 32 = .ok (.getfield 31, 3) := by decide +kernel
theorem dX9_sideBySide_35 : decode cX9_sideBySide 35 = .ok (.iconst 1, 1) := by decide +kernel
theorem dX9_sideBySide_36 : decode cX9_sideBySide 36 = .ok (.iload_n 1, 1) := by decide +kernel
theorem dX9_sideBySide_37 : decode cX9_sideBySide 37 = .ok (.isub, 1) := by decide +kernel
theorem dX9_sideBySide_38 : decode cX9_sideBySide 38 = .ok (.aaload, 1) := by decide +kernel
theorem dX9_sideBySide_39 : decode cX9_sideBySide 39 = .ok (.invokevirtual 181, 3) := by decide +kernel
theorem dX9_sideBySide_42 : decode cX9_sideBySide 42 = .ok (.istore_n 3, 1) := by decide +kernel
theorem dX9_sideBySide_43 : decode cX9_sideBySide 43 = .ok (.iload_n 2, 1) := by decide +kernel
theorem dX9_sideBySide_44 : decode cX9_sideBySide 44 = .ok (.iload_n 3, 1) := by decide +kernel
theorem dX9_sideBySide_45 : decode cX9_sideBySide 45 = .ok (.iconst (-1), 1) := by decide +kernel
theorem dX9_sideBySide_46 : decode cX9_sideBySide 46 = .ok (.ixor, 1) := by decide +kernel
theorem dX9_sideBySide_47 : decode cX9_sideBySide 47 = .ok (.iand, 1) := by decide +kernel
theorem dX9_sideBySide_48 : decode cX9_sideBySide 48 = .ok (.ireturn, 1) := by decide +kernel
theorem dX9_seed_0 : decode cX9_seed 0 = .ok (.iload_n 1, 1) := by decide +kernel
theorem dX9_seed_1 : decode cX9_seed 1 = .ok (.iconst 0, 1) := by decide +kernel
theorem dX9_seed_2 : decode cX9_seed 2 = .ok (.ldc 209, 2) := by decide +kernel
theorem dX9_seed_4 : decode cX9_seed 4 = .ok (.invokestatic 85, 3) := by decide +kernel
theorem dX9_seed_7 : decode cX9_seed 7 = .ok (.ifCond .ne 5, 3) := by decide +kernel
theorem dX9_seed_10 : decode cX9_seed 10 = .ok (.iconst 0, 1) := by decide +kernel
theorem dX9_seed_11 : decode cX9_seed 11 = .ok (.ireturn, 1) := by decide +kernel
theorem dX9_seed_12 : decode cX9_seed 12 = .ok (.aload_n 0, 1) := by decide +kernel
theorem dX9_seed_13 : decode cX9_seed 13 = .ok (.getfield 12, 3) := by decide +kernel
theorem dX9_seed_16 : decode cX9_seed 16 = .ok (.iload_n 1, 1) := by decide +kernel
theorem dX9_seed_17 : decode cX9_seed 17 = .ok (.putfield 235, 3) := by decide +kernel
theorem dX9_seed_20 : decode cX9_seed 20 = .ok (.iconst 1, 1) := by decide +kernel
theorem dX9_seed_21 : decode cX9_seed 21 = .ok (.ireturn, 1) := by decide +kernel
theorem dX9_keep_0 : decode cX9_keep 0 = .ok (.aload_n 0, 1) := by decide +kernel
theorem dX9_keep_1 : decode cX9_keep 1 = .ok (.getfield 16, 3) := by decide +kernel
theorem dX9_keep_4 : decode cX9_keep 4 = .ok (.aload_n 0, 1) := by decide +kernel
theorem dX9_keep_5 : decode cX9_keep 5 = .ok (.getfield 12, 3) := by decide +kernel
theorem dX9_keep_8 : decode cX9_keep 8 = .ok (.invokevirtual 178, 3) := by decide +kernel
theorem dX9_keep_11 : decode cX9_keep 11 = .ok (.aload_n 0, 1) := by decide +kernel
theorem dX9_keep_12 : decode cX9_keep 12 = .ok (.iconst 1, 1) := by decide +kernel
theorem dX9_keep_13 : decode cX9_keep 13 = .ok (.putfield 238, 3) := by decide +kernel
theorem dX9_keep_16 : decode cX9_keep 16 = .ok (.aload_n 0, 1) := by decide +kernel
theorem dX9_keep_17 : decode cX9_keep 17 = .ok (.aload_n 0, 1) := by decide +kernel
theorem dX9_keep_18 : decode cX9_keep 18 = .ok (.getfield 12, 3) := by decide +kernel
theorem dX9_keep_21 : decode cX9_keep 21 = .ok (.aload_n 0, 1) := by decide +kernel
theorem dX9_keep_22 : decode cX9_keep 22 = .ok (.getfield 31, 3) := by decide +kernel
theorem dX9_keep_25 : decode cX9_keep 25 = .ok (.iconst 0, 1) := by decide +kernel
theorem dX9_keep_26 : decode cX9_keep 26 = .ok (.aaload, 1) := by decide +kernel
theorem dX9_keep_27 : decode cX9_keep 27 = .ok (.invokevirtual 181, 3) := by decide +kernel
theorem dX9_keep_30 : decode cX9_keep 30 = .ok (.invokestatic 185, 3) := by decide +kernel
theorem dX9_keep_33 : decode cX9_keep 33 = .ok (.ireturn, 1) := by decide +kernel
theorem dX9_undo_0 : decode cX9_undo 0 = .ok (.aload_n 0, 1) := by decide +kernel
theorem dX9_undo_1 : decode cX9_undo 1 = .ok (.getfield 238, 3) := by decide +kernel
theorem dX9_undo_4 : decode cX9_undo 4 = .ok (.ifCond .ne 5, 3) := by decide +kernel
theorem dX9_undo_7 : decode cX9_undo 7 = .ok (.iconst 0, 1) := by decide +kernel
theorem dX9_undo_8 : decode cX9_undo 8 = .ok (.ireturn, 1) := by decide +kernel
theorem dX9_undo_9 : decode cX9_undo 9 = .ok (.aload_n 0, 1) := by decide +kernel
theorem dX9_undo_10 : decode cX9_undo 10 = .ok (.getfield 12, 3) := by decide +kernel
theorem dX9_undo_13 : decode cX9_undo 13 = .ok (.aload_n 0, 1) := by decide +kernel
theorem dX9_undo_14 : decode cX9_undo 14 = .ok (.getfield 16, 3) := by decide +kernel
theorem dX9_undo_17 : decode cX9_undo 17 = .ok (.invokevirtual 178, 3) := by decide +kernel
theorem dX9_undo_20 : decode cX9_undo 20 = .ok (.iconst 1, 1) := by decide +kernel
theorem dX9_undo_21 : decode cX9_undo 21 = .ok (.ireturn, 1) := by decide +kernel
theorem dX9_check_0 : decode cX9_check 0 = .ok (.iload_n 1, 1) := by decide +kernel
theorem dX9_check_1 : decode cX9_check 1 = .ok (.iconst 0, 1) := by decide +kernel
theorem dX9_check_2 : decode cX9_check 2 = .ok (.bipush 16, 2) := by decide +kernel
theorem dX9_check_4 : decode cX9_check 4 = .ok (.invokestatic 85, 3) := by decide +kernel
theorem dX9_check_7 : decode cX9_check 7 = .ok (.ifCond .eq 16, 3) := by decide +kernel
theorem dX9_check_10 : decode cX9_check 10 = .ok (.iload_n 1, 1) := by decide +kernel
theorem dX9_check_11 : decode cX9_check 11 = .ok (.iconst 4, 1) := by decide +kernel
theorem dX9_check_12 : decode cX9_check 12 = .ok (.imul, 1) := by decide +kernel
theorem dX9_check_13 : decode cX9_check 13 = .ok (.aload_n 0, 1) := by decide +kernel
theorem dX9_check_14 : decode cX9_check 14 = .ok (.getfield 25, 3) := by decide +kernel
theorem dX9_check_17 : decode cX9_check 17 = .ok (.getfield 107, 3) := by decide +kernel
theorem dX9_check_20 : decode cX9_check 20 = .ok (.if_icmp .le 6, 3) := by decide +kernel
theorem dX9_check_23 : decode cX9_check 23 = .ok (.bipush (-2), 2) := by decide +kernel
theorem dX9_check_25 : decode cX9_check 25 = .ok (.ireturn, 1) := by decide +kernel
theorem dX9_check_26 : decode cX9_check 26 = .ok (.aload_n 0, 1) := by decide +kernel
theorem dX9_check_27 : decode cX9_check 27 = .ok (.getfield 25, 3) := by decide +kernel
theorem dX9_check_30 : decode cX9_check 30 = .ok (.iconst 0, 1) := by decide +kernel
theorem dX9_check_31 : decode cX9_check 31 = .ok (.putfield 107, 3) := by decide +kernel
theorem dX9_check_34 : decode cX9_check 34 = .ok (.iconst 0, 1) := by decide +kernel
theorem dX9_check_35 : decode cX9_check 35 = .ok (.istore_n 2, 1) := by decide +kernel
theorem dX9_check_36 : decode cX9_check 36 = .ok (.iload_n 2, 1) := by decide +kernel
theorem dX9_check_37 : decode cX9_check 37 = .ok (.iload_n 1, 1) := by decide +kernel
theorem dX9_check_38 : decode cX9_check 38 = .ok (.if_icmp .ge 41, 3) := by decide +kernel
theorem dX9_check_41 : decode cX9_check 41 = .ok (.aload_n 0, 1) := by decide +kernel
theorem dX9_check_42 : decode cX9_check 42 = .ok (.getfield 12, 3) := by decide +kernel
theorem dX9_check_45 : decode cX9_check 45 = .ok (.iload_n 2, 1) := by decide +kernel
theorem dX9_check_46 : decode cX9_check 46 = .ok (.invokevirtual 122, 3) := by decide +kernel
theorem dX9_check_49 : decode cX9_check 49 = .ok (.ifCond .eq 22, 3) := by decide +kernel
theorem dX9_check_52 : decode cX9_check 52 = .ok (.aload_n 0, 1) := by decide +kernel
theorem dX9_check_53 : decode cX9_check 53 = .ok (.getfield 25, 3) := by decide +kernel
theorem dX9_check_56 : decode cX9_check 56 = .ok (.iload_n 2, 1) := by decide +kernel
theorem dX9_check_57 : decode cX9_check 57 = .ok (.invokevirtual 242, 3) := by decide +kernel
theorem dX9_check_60 : decode cX9_check 60 = .ok (.aload_n 0, 1) := by decide +kernel
theorem dX9_check_61 : decode cX9_check 61 = .ok (.getfield 12, 3) := by decide +kernel
theorem dX9_check_64 : decode cX9_check 64 = .ok (.iload_n 2, 1) := by decide +kernel
theorem dX9_check_65 : decode cX9_check 65 = .ok (.invokevirtual 125, 3) := by decide +kernel
theorem dX9_check_68 : decode cX9_check 68 = .ok (.if_icmp .eq 5, 3) := by decide +kernel
theorem dX9_check_71 : decode cX9_check 71 = .ok (.iload_n 2, 1) := by decide +kernel
theorem dX9_check_72 : decode cX9_check 72 = .ok (.ireturn, 1) := by decide +kernel
theorem dX9_check_73 : decode cX9_check 73 = .ok (.iinc 2 1, 3) := by decide +kernel
theorem dX9_check_76 : decode cX9_check 76 = .ok (.goto (-40), 3) := by decide +kernel
theorem dX9_check_79 : decode cX9_check 79 = .ok (.iconst (-1), 1) := by decide +kernel
theorem dX9_check_80 : decode cX9_check 80 = .ok (.ireturn, 1) := by decide +kernel
theorem dX9_count_0 : decode cX9_count 0 = .ok (.iload_n 1, 1) := by decide +kernel
theorem dX9_count_1 : decode cX9_count 1 = .ok (.bipush 60, 2) := by decide +kernel
theorem dX9_count_3 : decode cX9_count 3 = .ok (.if_icmp .lt 34, 3) := by decide +kernel
theorem dX9_count_6 : decode cX9_count 6 = .ok (.aload_n 0, 1) := by decide +kernel
theorem dX9_count_7 : decode cX9_count 7 = .ok (.getfield 12, 3) := by decide +kernel
theorem dX9_count_10 : decode cX9_count 10 = .ok (.iload_n 1, 1) := by decide +kernel
theorem dX9_count_11 : decode cX9_count 11 = .ok (.bipush 60, 2) := by decide +kernel
theorem dX9_count_13 : decode cX9_count 13 = .ok (.isub, 1) := by decide +kernel
theorem dX9_count_14 : decode cX9_count 14 = .ok (.invokevirtual 122, 3) := by decide +kernel
theorem dX9_count_17 : decode cX9_count 17 = .ok (.ifCond .eq 18, 3) := by decide +kernel
theorem dX9_count_20 : decode cX9_count 20 = .ok (.aload_n 0, 1) := by decide +kernel
theorem dX9_count_21 : decode cX9_count 21 = .ok (.getfield 12, 3) := by decide +kernel
theorem dX9_count_24 : decode cX9_count 24 = .ok (.getfield 245, 3) := by decide +kernel
theorem dX9_count_27 : decode cX9_count 27 = .ok (.iload_n 1, 1) := by decide +kernel
theorem dX9_count_28 : decode cX9_count 28 = .ok (.bipush 60, 2) := by decide +kernel
theorem dX9_count_30 : decode cX9_count 30 = .ok (.isub, 1) := by decide +kernel
theorem dX9_count_31 : decode cX9_count 31 = .ok (.iaload, 1) := by decide +kernel
theorem dX9_count_32 : decode cX9_count 32 = .ok (.goto 4, 3) := by decide +kernel
theorem dX9_count_35 : decode cX9_count 35 = .ok (.iconst (-1), 1) := by decide +kernel
theorem dX9_count_36 : decode cX9_count 36 = .ok (.ireturn, 1) := by decide +kernel
theorem dX9_count_37 : decode cX9_count 37 = .ok (.iload_n 1, 1) := by decide +kernel
theorem dX9_count_38 : decode cX9_count 38 = .ok (.bipush 40, 2) := by decide +kernel
theorem dX9_count_40 : decode cX9_count 40 = .ok (.if_icmp .lt 34, 3) := by decide +kernel
theorem dX9_count_43 : decode cX9_count 43 = .ok (.aload_n 0, 1) := by decide +kernel
theorem dX9_count_44 : decode cX9_count 44 = .ok (.getfield 12, 3) := by decide +kernel
theorem dX9_count_47 : decode cX9_count 47 = .ok (.iload_n 1, 1) := by decide +kernel
theorem dX9_count_48 : decode cX9_count 48 = .ok (.bipush 40, 2) := by decide +kernel
theorem dX9_count_50 : decode cX9_count 50 = .ok (.isub, 1) := by decide +kernel
theorem dX9_count_51 : decode cX9_count 51 = .ok (.invokevirtual 122, 3) := by decide +kernel
theorem dX9_count_54 : decode cX9_count 54 = .ok (.ifCond .eq 18, 3) := by decide +kernel
theorem dX9_count_57 : decode cX9_count 57 = .ok (.aload_n 0, 1) := by decide +kernel
theorem dX9_count_58 : decode cX9_count 58 = .ok (.getfield 12, 3) := by decide +kernel
theorem dX9_count_61 : decode cX9_count 61 = .ok (.getfield 248, 3) := by decide +kernel
theorem dX9_count_64 : decode cX9_count 64 = .ok (.iload_n 1, 1) := by decide +kernel
theorem dX9_count_65 : decode cX9_count 65 = .ok (.bipush 40, 2) := by decide +kernel
theorem dX9_count_67 : decode cX9_count 67 = .ok (.isub, 1) := by decide +kernel
theorem dX9_count_68 : decode cX9_count 68 = .ok (.iaload, 1) := by decide +kernel
theorem dX9_count_69 : decode cX9_count 69 = .ok (.goto 4, 3) := by decide +kernel
theorem dX9_count_72 : decode cX9_count 72 = .ok (.iconst (-1), 1) := by decide +kernel
theorem dX9_count_73 : decode cX9_count 73 = .ok (.ireturn, 1) := by decide +kernel
theorem dX9_count_74 : decode cX9_count 74 = .ok (.iload_n 1, 1) := by decide +kernel
theorem dX9_count_75 : decode cX9_count 75 = .ok (.bipush 20, 2) := by decide +kernel
theorem dX9_count_77 : decode cX9_count 77 = .ok (.if_icmp .lt 34, 3) := by decide +kernel
theorem dX9_count_80 : decode cX9_count 80 = .ok (.aload_n 0, 1) := by decide +kernel
theorem dX9_count_81 : decode cX9_count 81 = .ok (.getfield 12, 3) := by decide +kernel
theorem dX9_count_84 : decode cX9_count 84 = .ok (.iload_n 1, 1) := by decide +kernel
theorem dX9_count_85 : decode cX9_count 85 = .ok (.bipush 20, 2) := by decide +kernel
theorem dX9_count_87 : decode cX9_count 87 = .ok (.isub, 1) := by decide +kernel
theorem dX9_count_88 : decode cX9_count 88 = .ok (.invokevirtual 149, 3) := by decide +kernel
theorem dX9_count_91 : decode cX9_count 91 = .ok (.ifCond .eq 18, 3) := by decide +kernel
theorem dX9_count_94 : decode cX9_count 94 = .ok (.aload_n 0, 1) := by decide +kernel
theorem dX9_count_95 : decode cX9_count 95 = .ok (.getfield 12, 3) := by decide +kernel
theorem dX9_count_98 : decode cX9_count 98 = .ok (.getfield 152, 3) := by decide +kernel
theorem dX9_count_101 : decode cX9_count 101 = .ok (.iload_n 1, 1) := by decide +kernel
theorem dX9_count_102 : decode cX9_count 102 = .ok (.bipush 20, 2) := by decide +kernel
theorem dX9_count_104 : decode cX9_count 104 = .ok (.isub, 1) := by decide +kernel
theorem dX9_count_105 : decode cX9_count 105 = .ok (.iaload, 1) := by decide +kernel
theorem dX9_count_106 : decode cX9_count 106 = .ok (.goto 4, 3) := by decide +kernel
theorem dX9_count_109 : decode cX9_count 109 = .ok (.iconst (-1), 1) := by decide +kernel
theorem dX9_count_110 : decode cX9_count 110 = .ok (.ireturn, 1) := by decide +kernel
theorem dX9_count_111 : decode cX9_count 111 = .ok (.aload_n 0, 1) := by decide +kernel
theorem dX9_count_112 : decode cX9_count 112 = .ok (.iload_n 1, 1) := by decide +kernel
theorem dX9_count_113 : decode cX9_count 113 = .ok (.invokevirtual 251, 3) := by decide +kernel
theorem dX9_count_116 : decode cX9_count 116 = .ok (.ireturn, 1) := by decide +kernel
theorem dX9_countWhole_0 : decode cX9_countWhole 0 = .ok (.iload_n 1, 1) := by decide +kernel
theorem dX9_countWhole_1 : decode cX9_countWhole 1 = .ok (.tableswitch 143 0 9 #[55, 63, 71, 81, 91, 99, 107, 115, 120, 128], 55) := by decide +kernel
theorem dX9_countWhole_56 : decode cX9_countWhole 56 = .ok (.aload_n 0, 1) := by decide +kernel
theorem dX9_countWhole_57 : decode cX9_countWhole 57 = .ok (.getfield 12, 3) := by decide +kernel
theorem dX9_countWhole_60 : decode cX9_countWhole 60 = .ok (.getfield 89, 3) := by decide +kernel
theorem dX9_countWhole_63 : decode cX9_countWhole 63 = .ok (.ireturn, 1) := by decide +kernel
theorem dX9_countWhole_64 : decode cX9_countWhole 64 = .ok (.aload_n 0, 1) := by decide +kernel
theorem dX9_countWhole_65 : decode cX9_countWhole 65 = .ok (.getfield 12, 3) := by decide +kernel
theorem dX9_countWhole_68 : decode cX9_countWhole 68 = .ok (.getfield 143, 3) := by decide +kernel
theorem dX9_countWhole_71 : decode cX9_countWhole 71 = .ok (.ireturn, 1) := by decide +kernel
theorem dX9_countWhole_72 : decode cX9_countWhole 72 = .ok (.aload_n 0, 1) := by decide +kernel
theorem dX9_countWhole_73 : decode cX9_countWhole 73 = .ok (.getfield 31, 3) := by decide +kernel
theorem dX9_countWhole_76 : decode cX9_countWhole 76 = .ok (.iconst 0, 1) := by decide +kernel
theorem dX9_countWhole_77 : decode cX9_countWhole 77 = .ok (.aaload, 1) := by decide +kernel
theorem dX9_countWhole_78 : decode cX9_countWhole 78 = .ok (.getfield 254, 3) := by decide +kernel
theorem dX9_countWhole_81 : decode cX9_countWhole 81 = .ok (.ireturn, 1) := by decide +kernel
theorem dX9_countWhole_82 : decode cX9_countWhole 82 = .ok (.aload_n 0, 1) := by decide +kernel
theorem dX9_countWhole_83 : decode cX9_countWhole 83 = .ok (.getfield 31, 3) := by decide +kernel
theorem dX9_countWhole_86 : decode cX9_countWhole 86 = .ok (.iconst 1, 1) := by decide +kernel
theorem dX9_countWhole_87 : decode cX9_countWhole 87 = .ok (.aaload, 1) := by decide +kernel
theorem dX9_countWhole_88 : decode cX9_countWhole 88 = .ok (.getfield 254, 3) := by decide +kernel
theorem dX9_countWhole_91 : decode cX9_countWhole 91 = .ok (.ireturn, 1) := by decide +kernel
theorem dX9_countWhole_92 : decode cX9_countWhole 92 = .ok (.aload_n 0, 1) := by decide +kernel
theorem dX9_countWhole_93 : decode cX9_countWhole 93 = .ok (.getfield 25, 3) := by decide +kernel
theorem dX9_countWhole_96 : decode cX9_countWhole 96 = .ok (.getfield 107, 3) := by decide +kernel
theorem dX9_countWhole_99 : decode cX9_countWhole 99 = .ok (.ireturn, 1) := by decide +kernel
theorem dX9_countWhole_100 : decode cX9_countWhole 100 = .ok (.aload_n 0, 1) := by decide +kernel
theorem dX9_countWhole_101 : decode cX9_countWhole 101 = .ok (.getfield 12, 3) := by decide +kernel
theorem dX9_countWhole_104 : decode cX9_countWhole 104 = .ok (.getfield 257, 3) := by decide +kernel
theorem dX9_countWhole_107 : decode cX9_countWhole 107 = .ok (.ireturn, 1) := by decide +kernel
theorem dX9_countWhole_108 : decode cX9_countWhole 108 = .ok (.aload_n 0, 1) := by decide +kernel
theorem dX9_countWhole_109 : decode cX9_countWhole 109 = .ok (.getfield 12, 3) := by decide +kernel
theorem dX9_countWhole_112 : decode cX9_countWhole 112 = .ok (.getfield 235, 3) := by decide +kernel
theorem dX9_countWhole_115 : decode cX9_countWhole 115 = .ok (.ireturn, 1) := by decide +kernel
theorem dX9_countWhole_116 : decode cX9_countWhole 116 = .ok (.aload_n 0, 1) := by decide +kernel
theorem dX9_countWhole_117 : decode cX9_countWhole 117 = .ok (.getfield 229, 3) := by decide +kernel
theorem dX9_countWhole_120 : decode cX9_countWhole 120 = .ok (.ireturn, 1) := by decide +kernel
theorem dX9_countWhole_121 : decode cX9_countWhole 121 = .ok (.aload_n 0, 1) := by decide +kernel
theorem dX9_countWhole_122 : decode cX9_countWhole 122 = .ok (.getfield 12, 3) := by decide +kernel
theorem dX9_countWhole_125 : decode cX9_countWhole 125 = .ok (.getfield 104, 3) := by decide +kernel
theorem dX9_countWhole_128 : decode cX9_countWhole 128 = .ok (.ireturn, 1) := by decide +kernel
theorem dX9_countWhole_129 : decode cX9_countWhole 129 = .ok (.aload_n 0, 1) := by decide +kernel
theorem dX9_countWhole_130 : decode cX9_countWhole 130 = .ok (.aload_n 0, 1) := by decide +kernel
theorem dX9_countWhole_131 : decode cX9_countWhole 131 = .ok (.getfield 12, 3) := by decide +kernel
theorem dX9_countWhole_134 : decode cX9_countWhole 134 = .ok (.aload_n 0, 1) := by decide +kernel
theorem dX9_countWhole_135 : decode cX9_countWhole 135 = .ok (.getfield 31, 3) := by decide +kernel
theorem dX9_countWhole_138 : decode cX9_countWhole 138 = .ok (.iconst 0, 1) := by decide +kernel
theorem dX9_countWhole_139 : decode cX9_countWhole 139 = .ok (.aaload, 1) := by decide +kernel
theorem dX9_countWhole_140 : decode cX9_countWhole 140 = .ok (.invokevirtual 181, 3) := by decide +kernel
theorem dX9_countWhole_143 : decode cX9_countWhole 143 = .ok (.ireturn, 1) := by decide +kernel
theorem dX9_countWhole_144 : decode cX9_countWhole 144 = .ok (.iconst (-1), 1) := by decide +kernel
theorem dX9_countWhole_145 : decode cX9_countWhole 145 = .ok (.ireturn, 1) := by decide +kernel
theorem dX9_runYears_0 : decode cX9_runYears 0 = .ok (.iconst 0, 1) := by decide +kernel
theorem dX9_runYears_1 : decode cX9_runYears 1 = .ok (.istore_n 3, 1) := by decide +kernel
theorem dX9_runYears_2 : decode cX9_runYears 2 = .ok (.iconst 0, 1) := by decide +kernel
theorem dX9_runYears_3 : decode cX9_runYears 3 = .ok (.istore 4, 2) := by decide +kernel
theorem dX9_runYears_5 : decode cX9_runYears 5 = .ok (.iload 4, 2) := by decide +kernel
theorem dX9_runYears_7 : decode cX9_runYears 7 = .ok (.iload_n 2, 1) := by decide +kernel
theorem dX9_runYears_8 : decode cX9_runYears 8 = .ok (.if_icmp .ge 26, 3) := by decide +kernel
theorem dX9_runYears_11 : decode cX9_runYears 11 = .ok (.iload_n 3, 1) := by decide +kernel
theorem dX9_runYears_12 : decode cX9_runYears 12 = .ok (.aload_n 1, 1) := by decide +kernel
theorem dX9_runYears_13 : decode cX9_runYears 13 = .ok (.aload_n 0, 1) := by decide +kernel
theorem dX9_runYears_14 : decode cX9_runYears 14 = .ok (.getfield 31, 3) := by decide +kernel
theorem dX9_runYears_17 : decode cX9_runYears 17 = .ok (.iconst 0, 1) := by decide +kernel
theorem dX9_runYears_18 : decode cX9_runYears 18 = .ok (.aaload, 1) := by decide +kernel
theorem dX9_runYears_19 : decode cX9_runYears 19 = .ok (.aload_n 1, 1) := by decide +kernel
theorem dX9_runYears_20 : decode cX9_runYears 20 = .ok (.invokevirtual 260, 3) := by decide +kernel
theorem dX9_runYears_23 : decode cX9_runYears 23 = .ok (.invokevirtual 170, 3) := by decide +kernel
theorem dX9_runYears_26 : decode cX9_runYears 26 = .ok (.iadd, 1) := by decide +kernel
theorem dX9_runYears_27 : decode cX9_runYears 27 = .ok (.istore_n 3, 1) := by decide +kernel
theorem dX9_runYears_28 : decode cX9_runYears 28 = .ok (.iinc 4 1, 3) := by decide +kernel
theorem dX9_runYears_31 : decode cX9_runYears 31 = .ok (.goto (-26), 3) := by decide +kernel
theorem dX9_runYears_34 : decode cX9_runYears 34 = .ok (.iload_n 3, 1) := by decide +kernel
theorem dX9_runYears_35 : decode cX9_runYears 35 = .ok (.ireturn, 1) := by decide +kernel
theorem dX9_heldBy_0 : decode cX9_heldBy 0 = .ok (.aload_n 0, 1) := by decide +kernel
theorem dX9_heldBy_1 : decode cX9_heldBy 1 = .ok (.getfield 54, 3) := by decide +kernel
theorem dX9_heldBy_4 : decode cX9_heldBy 4 = .ok (.aload_n 1, 1) := by decide +kernel
theorem dX9_heldBy_5 : decode cX9_heldBy 5 = .ok (.aload_n 2, 1) := by decide +kernel
theorem dX9_heldBy_6 : decode cX9_heldBy 6 = .ok (.invokevirtual 132, 3) := by decide +kernel
theorem dX9_heldBy_9 : decode cX9_heldBy 9 = .ok (.aload_n 0, 1) := by decide +kernel
theorem dX9_heldBy_10 : decode cX9_heldBy 10 = .ok (.getfield 54, 3) := by decide +kernel
theorem dX9_heldBy_13 : decode cX9_heldBy 13 = .ok (.iconst 0, 1) := by decide +kernel
theorem dX9_heldBy_14 : decode cX9_heldBy 14 = .ok (.invokevirtual 223, 3) := by decide +kernel
theorem dX9_heldBy_17 : decode cX9_heldBy 17 = .ok (.ireturn, 1) := by decide +kernel
theorem dX9_explainsAll_0 : decode cX9_explainsAll 0 = .ok (.iconst 0, 1) := by decide +kernel
theorem dX9_explainsAll_1 : decode cX9_explainsAll 1 = .ok (.istore_n 2, 1) := by decide +kernel
theorem dX9_explainsAll_2 : decode cX9_explainsAll 2 = .ok (.iload_n 2, 1) := by decide +kernel
theorem dX9_explainsAll_3 : decode cX9_explainsAll 3 = .ok (.aload_n 0, 1) := by decide +kernel
theorem dX9_explainsAll_4 : decode cX9_explainsAll 4 = .ok (.getfield 229, 3) := by decide +kernel
theorem dX9_explainsAll_7 : decode cX9_explainsAll 7 = .ok (.if_icmp .ge 22, 3) := by decide +kernel
theorem dX9_explainsAll_10 : decode cX9_explainsAll 10 = .ok (.aload_n 0, 1) := by decide +kernel
theorem dX9_explainsAll_11 : decode cX9_explainsAll 11 = .ok (.getfield 81, 3) := by decide +kernel
theorem dX9_explainsAll_14 : decode cX9_explainsAll 14 = .ok (.iload_n 2, 1) := by decide +kernel
theorem dX9_explainsAll_15 : decode cX9_explainsAll 15 = .ok (.iaload, 1) := by decide +kernel
theorem dX9_explainsAll_16 : decode cX9_explainsAll 16 = .ok (.iload_n 1, 1) := by decide +kernel
theorem dX9_explainsAll_17 : decode cX9_explainsAll 17 = .ok (.iand, 1) := by decide +kernel
theorem dX9_explainsAll_18 : decode cX9_explainsAll 18 = .ok (.ifCond .ne 5, 3) := by decide +kernel
theorem dX9_explainsAll_21 : decode cX9_explainsAll 21 = .ok (.iconst 0, 1) := by decide +kernel
theorem dX9_explainsAll_22 : decode cX9_explainsAll 22 = .ok (.ireturn, 1) := by decide +kernel
theorem dX9_explainsAll_23 : decode cX9_explainsAll 23 = .ok (.iinc 2 1, 3) := by decide +kernel
theorem dX9_explainsAll_26 : decode cX9_explainsAll 26 = .ok (.goto (-24), 3) := by decide +kernel
theorem dX9_explainsAll_29 : decode cX9_explainsAll 29 = .ok (.iconst 1, 1) := by decide +kernel
theorem dX9_explainsAll_30 : decode cX9_explainsAll 30 = .ok (.ireturn, 1) := by decide +kernel
theorem dX9_within_0 : decode cX9_within 0 = .ok (.iload_n 0, 1) := by decide +kernel
theorem dX9_within_1 : decode cX9_within 1 = .ok (.iload_n 1, 1) := by decide +kernel
theorem dX9_within_2 : decode cX9_within 2 = .ok (.if_icmp .lt 12, 3) := by decide +kernel
theorem dX9_within_5 : decode cX9_within 5 = .ok (.iload_n 0, 1) := by decide +kernel
theorem dX9_within_6 : decode cX9_within 6 = .ok (.iload_n 2, 1) := by decide +kernel
theorem dX9_within_7 : decode cX9_within 7 = .ok (.if_icmp .gt 7, 3) := by decide +kernel
theorem dX9_within_10 : decode cX9_within 10 = .ok (.iconst 1, 1) := by decide +kernel
theorem dX9_within_11 : decode cX9_within 11 = .ok (.goto 4, 3) := by decide +kernel
theorem dX9_within_14 : decode cX9_within 14 = .ok (.iconst 0, 1) := by decide +kernel
theorem dX9_within_15 : decode cX9_within 15 = .ok (.ireturn, 1) := by decide +kernel
theorem dX9_has_0 : decode cX9_has 0 = .ok (.iload_n 0, 1) := by decide +kernel
theorem dX9_has_1 : decode cX9_has 1 = .ok (.iload_n 1, 1) := by decide +kernel
theorem dX9_has_2 : decode cX9_has 2 = .ok (.ishr, 1) := by decide +kernel
theorem dX9_has_3 : decode cX9_has 3 = .ok (.iconst 1, 1) := by decide +kernel
theorem dX9_has_4 : decode cX9_has 4 = .ok (.iand, 1) := by decide +kernel
theorem dX9_has_5 : decode cX9_has 5 = .ok (.ifCond .eq 7, 3) := by decide +kernel
theorem dX9_has_8 : decode cX9_has 8 = .ok (.iconst 1, 1) := by decide +kernel
theorem dX9_has_9 : decode cX9_has 9 = .ok (.goto 4, 3) := by decide +kernel
theorem dX9_has_12 : decode cX9_has 12 = .ok (.iconst 0, 1) := by decide +kernel
theorem dX9_has_13 : decode cX9_has 13 = .ok (.ireturn, 1) := by decide +kernel
theorem dX9_nextSubset_0 : decode cX9_nextSubset 0 = .ok (.iload_n 0, 1) := by decide +kernel
theorem dX9_nextSubset_1 : decode cX9_nextSubset 1 = .ok (.iload_n 1, 1) := by decide +kernel
theorem dX9_nextSubset_2 : decode cX9_nextSubset 2 = .ok (.isub, 1) := by decide +kernel
theorem dX9_nextSubset_3 : decode cX9_nextSubset 3 = .ok (.iload_n 1, 1) := by decide +kernel
theorem dX9_nextSubset_4 : decode cX9_nextSubset 4 = .ok (.iand, 1) := by decide +kernel
theorem dX9_nextSubset_5 : decode cX9_nextSubset 5 = .ok (.ireturn, 1) := by decide +kernel
theorem dL_law_0 : decode cL_law 0 = .ok (.new 7, 3) := by decide +kernel
theorem dL_law_3 : decode cL_law 3 = .ok (.dup, 1) := by decide +kernel
theorem dL_law_4 : decode cL_law 4 = .ok (.invokespecial 9, 3) := by decide +kernel
theorem dL_law_7 : decode cL_law 7 = .ok (.astore_n 1, 1) := by decide +kernel
theorem dL_law_8 : decode cL_law 8 = .ok (.new 10, 3) := by decide +kernel
theorem dL_law_11 : decode cL_law 11 = .ok (.dup, 1) := by decide +kernel
theorem dL_law_12 : decode cL_law 12 = .ok (.invokespecial 12, 3) := by decide +kernel
theorem dL_law_15 : decode cL_law 15 = .ok (.astore_n 2, 1) := by decide +kernel
theorem dL_law_16 : decode cL_law 16 = .ok (.iconst 0, 1) := by decide +kernel
theorem dL_law_17 : decode cL_law 17 = .ok (.istore_n 3, 1) := by decide +kernel
theorem dL_law_18 : decode cL_law 18 = .ok (.iload_n 3, 1) := by decide +kernel
theorem dL_law_19 : decode cL_law 19 = .ok (.aload_n 0, 1) := by decide +kernel
theorem dL_law_20 : decode cL_law 20 = .ok (.arraylength, 1) := by decide +kernel
theorem dL_law_21 : decode cL_law 21 = .ok (.bipush 6, 2) := by decide +kernel
theorem dL_law_23 : decode cL_law 23 = .ok (.isub, 1) := by decide +kernel
theorem dL_law_24 : decode cL_law 24 = .ok (.if_icmp .gt 983, 3) := by decide +kernel
theorem dL_law_27 : decode cL_law 27 = .ok (.aload_n 0, 1) := by decide +kernel
theorem dL_law_28 : decode cL_law 28 = .ok (.iload_n 3, 1) := by decide +kernel
theorem dL_law_29 : decode cL_law 29 = .ok (.iaload, 1) := by decide +kernel
theorem dL_law_30 : decode cL_law 30 = .ok (.bipush 31, 2) := by decide +kernel
theorem dL_law_32 : decode cL_law 32 = .ok (.iand, 1) := by decide +kernel
theorem dL_law_33 : decode cL_law 33 = .ok (.tableswitch 968 0 28 #[131, 184, 217, 240, 303, 336, 359, 372, 405, 438, 471, 494, 517, 540, 573, 606, 649, 672, 695, 748, 791, 814, 837, 850, 873, 896, 909, 922, 945], 131) := by decide +kernel
theorem dL_law_164 : decode cL_law 164 = .ok (.aload_n 1, 1) := by decide +kernel
theorem dL_law_165 : decode cL_law 165 = .ok (.aload_n 0, 1) := by decide +kernel
theorem dL_law_166 : decode cL_law 166 = .ok (.iload_n 3, 1) := by decide +kernel
theorem dL_law_167 : decode cL_law 167 = .ok (.iconst 1, 1) := by decide +kernel
theorem dL_law_168 : decode cL_law 168 = .ok (.iadd, 1) := by decide +kernel
theorem dL_law_169 : decode cL_law 169 = .ok (.iaload, 1) := by decide +kernel
theorem dL_law_170 : decode cL_law 170 = .ok (.aload_n 0, 1) := by decide +kernel
theorem dL_law_171 : decode cL_law 171 = .ok (.iload_n 3, 1) := by decide +kernel
theorem dL_law_172 : decode cL_law 172 = .ok (.iconst 2, 1) := by decide +kernel
theorem dL_law_173 : decode cL_law 173 = .ok (.iadd, 1) := by decide +kernel
theorem dL_law_174 : decode cL_law 174 = .ok (.iaload, 1) := by decide +kernel
theorem dL_law_175 : decode cL_law 175 = .ok (.aload_n 0, 1) := by decide +kernel
theorem dL_law_176 : decode cL_law 176 = .ok (.iload_n 3, 1) := by decide +kernel
theorem dL_law_177 : decode cL_law 177 = .ok (.iconst 3, 1) := by decide +kernel
theorem dL_law_178 : decode cL_law 178 = .ok (.iadd, 1) := by decide +kernel
theorem dL_law_179 : decode cL_law 179 = .ok (.iaload, 1) := by decide +kernel
theorem dL_law_180 : decode cL_law 180 = .ok (.aload_n 0, 1) := by decide +kernel
theorem dL_law_181 : decode cL_law 181 = .ok (.iload_n 3, 1) := by decide +kernel
theorem dL_law_182 : decode cL_law 182 = .ok (.iconst 4, 1) := by decide +kernel
theorem dL_law_183 : decode cL_law 183 = .ok (.iadd, 1) := by decide +kernel
theorem dL_law_184 : decode cL_law 184 = .ok (.iaload, 1) := by decide +kernel
theorem dL_law_185 : decode cL_law 185 = .ok (.invokevirtual 13, 3) := by decide +kernel
theorem dL_law_188 : decode cL_law 188 = .ok (.aload_n 2, 1) := by decide +kernel
theorem dL_law_189 : decode cL_law 189 = .ok (.aload_n 0, 1) := by decide +kernel
theorem dL_law_190 : decode cL_law 190 = .ok (.iload_n 3, 1) := by decide +kernel
theorem dL_law_191 : decode cL_law 191 = .ok (.iconst 1, 1) := by decide +kernel
theorem dL_law_192 : decode cL_law 192 = .ok (.iadd, 1) := by decide +kernel
theorem dL_law_193 : decode cL_law 193 = .ok (.iaload, 1) := by decide +kernel
theorem dL_law_194 : decode cL_law 194 = .ok (.aload_n 0, 1) := by decide +kernel
theorem dL_law_195 : decode cL_law 195 = .ok (.iload_n 3, 1) := by decide +kernel
theorem dL_law_196 : decode cL_law 196 = .ok (.iconst 2, 1) := by decide +kernel
theorem dL_law_197 : decode cL_law 197 = .ok (.iadd, 1) := by decide +kernel
theorem dL_law_198 : decode cL_law 198 = .ok (.iaload, 1) := by decide +kernel
theorem dL_law_199 : decode cL_law 199 = .ok (.aload_n 0, 1) := by decide +kernel
theorem dL_law_200 : decode cL_law 200 = .ok (.iload_n 3, 1) := by decide +kernel
theorem dL_law_201 : decode cL_law 201 = .ok (.iconst 3, 1) := by decide +kernel
theorem dL_law_202 : decode cL_law 202 = .ok (.iadd, 1) := by decide +kernel
theorem dL_law_203 : decode cL_law 203 = .ok (.iaload, 1) := by decide +kernel
theorem dL_law_204 : decode cL_law 204 = .ok (.aload_n 0, 1) := by decide +kernel
theorem dL_law_205 : decode cL_law 205 = .ok (.iload_n 3, 1) := by decide +kernel
theorem dL_law_206 : decode cL_law 206 = .ok (.iconst 4, 1) := by decide +kernel
theorem dL_law_207 : decode cL_law 207 = .ok (.iadd, 1) := by decide +kernel
theorem dL_law_208 : decode cL_law 208 = .ok (.iaload, 1) := by decide +kernel
theorem dL_law_209 : decode cL_law 209 = .ok (.invokevirtual 17, 3) := by decide +kernel
theorem dL_law_212 : decode cL_law 212 = .ok (.if_icmp .eq 789, 3) := by decide +kernel
theorem dL_law_215 : decode cL_law 215 = .ok (.iconst 0, 1) := by decide +kernel
theorem dL_law_216 : decode cL_law 216 = .ok (.ireturn, 1) := by decide +kernel
theorem dL_law_217 : decode cL_law 217 = .ok (.aload_n 1, 1) := by decide +kernel
theorem dL_law_218 : decode cL_law 218 = .ok (.aload_n 0, 1) := by decide +kernel
theorem dL_law_219 : decode cL_law 219 = .ok (.iload_n 3, 1) := by decide +kernel
theorem dL_law_220 : decode cL_law 220 = .ok (.iconst 1, 1) := by decide +kernel
theorem dL_law_221 : decode cL_law 221 = .ok (.iadd, 1) := by decide +kernel
theorem dL_law_222 : decode cL_law 222 = .ok (.iaload, 1) := by decide +kernel
theorem dL_law_223 : decode cL_law 223 = .ok (.aload_n 0, 1) := by decide +kernel
theorem dL_law_224 : decode cL_law 224 = .ok (.iload_n 3, 1) := by decide +kernel
theorem dL_law_225 : decode cL_law 225 = .ok (.iconst 2, 1) := by decide +kernel
theorem dL_law_226 : decode cL_law 226 = .ok (.iadd, 1) := by decide +kernel
theorem dL_law_227 : decode cL_law 227 = .ok (.iaload, 1) := by decide +kernel
theorem dL_law_228 : decode cL_law 228 = .ok (.invokevirtual 18, 3) := by decide +kernel
theorem dL_law_231 : decode cL_law 231 = .ok (.aload_n 2, 1) := by decide +kernel
theorem dL_law_232 : decode cL_law 232 = .ok (.aload_n 0, 1) := by decide +kernel
theorem dL_law_233 : decode cL_law 233 = .ok (.iload_n 3, 1) := by decide +kernel
theorem dL_law_234 : decode cL_law 234 = .ok (.iconst 1, 1) := by decide +kernel
theorem dL_law_235 : decode cL_law 235 = .ok (.iadd, 1) := by decide +kernel
theorem dL_law_236 : decode cL_law 236 = .ok (.iaload, 1) := by decide +kernel
theorem dL_law_237 : decode cL_law 237 = .ok (.aload_n 0, 1) := by decide +kernel
theorem dL_law_238 : decode cL_law 238 = .ok (.iload_n 3, 1) := by decide +kernel
theorem dL_law_239 : decode cL_law 239 = .ok (.iconst 2, 1) := by decide +kernel
theorem dL_law_240 : decode cL_law 240 = .ok (.iadd, 1) := by decide +kernel
theorem dL_law_241 : decode cL_law 241 = .ok (.iaload, 1) := by decide +kernel
theorem dL_law_242 : decode cL_law 242 = .ok (.invokevirtual 22, 3) := by decide +kernel
theorem dL_law_245 : decode cL_law 245 = .ok (.if_icmp .eq 756, 3) := by decide +kernel
theorem dL_law_248 : decode cL_law 248 = .ok (.iconst 0, 1) := by decide +kernel
theorem dL_law_249 : decode cL_law 249 = .ok (.ireturn, 1) := by decide +kernel
theorem dL_law_250 : decode cL_law 250 = .ok (.aload_n 1, 1) := by decide +kernel
theorem dL_law_251 : decode cL_law 251 = .ok (.aload_n 0, 1) := by decide +kernel
theorem dL_law_252 : decode cL_law 252 = .ok (.iload_n 3, 1) := by decide +kernel
theorem dL_law_253 : decode cL_law 253 = .ok (.iconst 1, 1) := by decide +kernel
theorem dL_law_254 : decode cL_law 254 = .ok (.iadd, 1) := by decide +kernel
theorem dL_law_255 : decode cL_law 255 = .ok (.iaload, 1) := by decide +kernel
theorem dL_law_256 : decode cL_law 256 = .ok (.invokevirtual 23, 3) := by decide +kernel
theorem dL_law_259 : decode cL_law 259 = .ok (.aload_n 2, 1) := by decide +kernel
theorem dL_law_260 : decode cL_law 260 = .ok (.aload_n 0, 1) := by decide +kernel
theorem dL_law_261 : decode cL_law 261 = .ok (.iload_n 3, 1) := by decide +kernel
theorem dL_law_262 : decode cL_law 262 = .ok (.iconst 1, 1) := by decide +kernel
theorem dL_law_263 : decode cL_law 263 = .ok (.iadd, 1) := by decide +kernel
theorem dL_law_264 : decode cL_law 264 = .ok (.iaload, 1) := by decide +kernel
theorem dL_law_265 : decode cL_law 265 = .ok (.invokevirtual 27, 3) := by decide +kernel
theorem dL_law_268 : decode cL_law 268 = .ok (.if_icmp .eq 733, 3) := by decide +kernel
theorem dL_law_271 : decode cL_law 271 = .ok (.iconst 0, 1) := by decide +kernel
theorem dL_law_272 : decode cL_law 272 = .ok (.ireturn, 1) := by decide +kernel
theorem dL_law_273 : decode cL_law 273 = .ok (.aload_n 1, 1) := by decide +kernel
theorem dL_law_274 : decode cL_law 274 = .ok (.aload_n 0, 1) := by decide +kernel
theorem dL_law_275 : decode cL_law 275 = .ok (.iload_n 3, 1) := by decide +kernel
theorem dL_law_276 : decode cL_law 276 = .ok (.iconst 1, 1) := by decide +kernel
theorem dL_law_277 : decode cL_law 277 = .ok (.iadd, 1) := by decide +kernel
theorem dL_law_278 : decode cL_law 278 = .ok (.iaload, 1) := by decide +kernel
theorem dL_law_279 : decode cL_law 279 = .ok (.aload_n 0, 1) := by decide +kernel
theorem dL_law_280 : decode cL_law 280 = .ok (.iload_n 3, 1) := by decide +kernel
theorem dL_law_281 : decode cL_law 281 = .ok (.iconst 2, 1) := by decide +kernel
theorem dL_law_282 : decode cL_law 282 = .ok (.iadd, 1) := by decide +kernel
theorem dL_law_283 : decode cL_law 283 = .ok (.iaload, 1) := by decide +kernel
theorem dL_law_284 : decode cL_law 284 = .ok (.aload_n 0, 1) := by decide +kernel
theorem dL_law_285 : decode cL_law 285 = .ok (.iload_n 3, 1) := by decide +kernel
theorem dL_law_286 : decode cL_law 286 = .ok (.iconst 3, 1) := by decide +kernel
theorem dL_law_287 : decode cL_law 287 = .ok (.iadd, 1) := by decide +kernel
theorem dL_law_288 : decode cL_law 288 = .ok (.iaload, 1) := by decide +kernel
theorem dL_law_289 : decode cL_law 289 = .ok (.aload_n 0, 1) := by decide +kernel
theorem dL_law_290 : decode cL_law 290 = .ok (.iload_n 3, 1) := by decide +kernel
theorem dL_law_291 : decode cL_law 291 = .ok (.iconst 4, 1) := by decide +kernel
theorem dL_law_292 : decode cL_law 292 = .ok (.iadd, 1) := by decide +kernel
theorem dL_law_293 : decode cL_law 293 = .ok (.iaload, 1) := by decide +kernel
theorem dL_law_294 : decode cL_law 294 = .ok (.aload_n 0, 1) := by decide +kernel
theorem dL_law_295 : decode cL_law 295 = .ok (.iload_n 3, 1) := by decide +kernel
theorem dL_law_296 : decode cL_law 296 = .ok (.iconst 5, 1) := by decide +kernel
theorem dL_law_297 : decode cL_law 297 = .ok (.iadd, 1) := by decide +kernel
theorem dL_law_298 : decode cL_law 298 = .ok (.iaload, 1) := by decide +kernel
theorem dL_law_299 : decode cL_law 299 = .ok (.invokevirtual 28, 3) := by decide +kernel
theorem dL_law_302 : decode cL_law 302 = .ok (.aload_n 2, 1) := by decide +kernel
theorem dL_law_303 : decode cL_law 303 = .ok (.aload_n 0, 1) := by decide +kernel
theorem dL_law_304 : decode cL_law 304 = .ok (.iload_n 3, 1) := by decide +kernel
theorem dL_law_305 : decode cL_law 305 = .ok (.iconst 1, 1) := by decide +kernel
theorem dL_law_306 : decode cL_law 306 = .ok (.iadd, 1) := by decide +kernel
theorem dL_law_307 : decode cL_law 307 = .ok (.iaload, 1) := by decide +kernel
theorem dL_law_308 : decode cL_law 308 = .ok (.aload_n 0, 1) := by decide +kernel
theorem dL_law_309 : decode cL_law 309 = .ok (.iload_n 3, 1) := by decide +kernel
theorem dL_law_310 : decode cL_law 310 = .ok (.iconst 2, 1) := by decide +kernel
theorem dL_law_311 : decode cL_law 311 = .ok (.iadd, 1) := by decide +kernel
theorem dL_law_312 : decode cL_law 312 = .ok (.iaload, 1) := by decide +kernel
theorem dL_law_313 : decode cL_law 313 = .ok (.aload_n 0, 1) := by decide +kernel
theorem dL_law_314 : decode cL_law 314 = .ok (.iload_n 3, 1) := by decide +kernel
theorem dL_law_315 : decode cL_law 315 = .ok (.iconst 3, 1) := by decide +kernel
theorem dL_law_316 : decode cL_law 316 = .ok (.iadd, 1) := by decide +kernel
theorem dL_law_317 : decode cL_law 317 = .ok (.iaload, 1) := by decide +kernel
theorem dL_law_318 : decode cL_law 318 = .ok (.aload_n 0, 1) := by decide +kernel
theorem dL_law_319 : decode cL_law 319 = .ok (.iload_n 3, 1) := by decide +kernel
theorem dL_law_320 : decode cL_law 320 = .ok (.iconst 4, 1) := by decide +kernel
theorem dL_law_321 : decode cL_law 321 = .ok (.iadd, 1) := by decide +kernel
theorem dL_law_322 : decode cL_law 322 = .ok (.iaload, 1) := by decide +kernel
theorem dL_law_323 : decode cL_law 323 = .ok (.aload_n 0, 1) := by decide +kernel
theorem dL_law_324 : decode cL_law 324 = .ok (.iload_n 3, 1) := by decide +kernel
theorem dL_law_325 : decode cL_law 325 = .ok (.iconst 5, 1) := by decide +kernel
theorem dL_law_326 : decode cL_law 326 = .ok (.iadd, 1) := by decide +kernel
theorem dL_law_327 : decode cL_law 327 = .ok (.iaload, 1) := by decide +kernel
theorem dL_law_328 : decode cL_law 328 = .ok (.invokevirtual 32, 3) := by decide +kernel
theorem dL_law_331 : decode cL_law 331 = .ok (.if_icmp .eq 670, 3) := by decide +kernel
theorem dL_law_334 : decode cL_law 334 = .ok (.iconst 0, 1) := by decide +kernel
theorem dL_law_335 : decode cL_law 335 = .ok (.ireturn, 1) := by decide +kernel
theorem dL_law_336 : decode cL_law 336 = .ok (.aload_n 1, 1) := by decide +kernel
theorem dL_law_337 : decode cL_law 337 = .ok (.aload_n 0, 1) := by decide +kernel
theorem dL_law_338 : decode cL_law 338 = .ok (.iload_n 3, 1) := by decide +kernel
theorem dL_law_339 : decode cL_law 339 = .ok (.iconst 1, 1) := by decide +kernel
theorem dL_law_340 : decode cL_law 340 = .ok (.iadd, 1) := by decide +kernel
theorem dL_law_341 : decode cL_law 341 = .ok (.iaload, 1) := by decide +kernel
theorem dL_law_342 : decode cL_law 342 = .ok (.aload_n 0, 1) := by decide +kernel
theorem dL_law_343 : decode cL_law 343 = .ok (.iload_n 3, 1) := by decide +kernel
theorem dL_law_344 : decode cL_law 344 = .ok (.iconst 2, 1) := by decide +kernel
theorem dL_law_345 : decode cL_law 345 = .ok (.iadd, 1) := by decide +kernel
theorem dL_law_346 : decode cL_law 346 = .ok (.iaload, 1) := by decide +kernel
theorem dL_law_347 : decode cL_law 347 = .ok (.invokevirtual 33, 3) := by decide +kernel
theorem dL_law_350 : decode cL_law 350 = .ok (.aload_n 2, 1) := by decide +kernel
theorem dL_law_351 : decode cL_law 351 = .ok (.aload_n 0, 1) := by decide +kernel
theorem dL_law_352 : decode cL_law 352 = .ok (.iload_n 3, 1) := by decide +kernel
theorem dL_law_353 : decode cL_law 353 = .ok (.iconst 1, 1) := by decide +kernel
theorem dL_law_354 : decode cL_law 354 = .ok (.iadd, 1) := by decide +kernel
theorem dL_law_355 : decode cL_law 355 = .ok (.iaload, 1) := by decide +kernel
theorem dL_law_356 : decode cL_law 356 = .ok (.aload_n 0, 1) := by decide +kernel
theorem dL_law_357 : decode cL_law 357 = .ok (.iload_n 3, 1) := by decide +kernel
theorem dL_law_358 : decode cL_law 358 = .ok (.iconst 2, 1) := by decide +kernel
theorem dL_law_359 : decode cL_law 359 = .ok (.iadd, 1) := by decide +kernel
theorem dL_law_360 : decode cL_law 360 = .ok (.iaload, 1) := by decide +kernel
theorem dL_law_361 : decode cL_law 361 = .ok (.invokevirtual 37, 3) := by decide +kernel
theorem dL_law_364 : decode cL_law 364 = .ok (.if_icmp .eq 637, 3) := by decide +kernel
theorem dL_law_367 : decode cL_law 367 = .ok (.iconst 0, 1) := by decide +kernel
theorem dL_law_368 : decode cL_law 368 = .ok (.ireturn, 1) := by decide +kernel
theorem dL_law_369 : decode cL_law 369 = .ok (.aload_n 1, 1) := by decide +kernel
theorem dL_law_370 : decode cL_law 370 = .ok (.aload_n 0, 1) := by decide +kernel
theorem dL_law_371 : decode cL_law 371 = .ok (.iload_n 3, 1) := by decide +kernel
theorem dL_law_372 : decode cL_law 372 = .ok (.iconst 1, 1) := by decide +kernel
theorem dL_law_373 : decode cL_law 373 = .ok (.iadd, 1) := by decide +kernel
theorem dL_law_374 : decode cL_law 374 = .ok (.iaload, 1) := by decide +kernel
theorem dL_law_375 : decode cL_law 375 = .ok (.invokevirtual 38, 3) := by decide +kernel
theorem dL_law_378 : decode cL_law 378 = .ok (.aload_n 2, 1) := by decide +kernel
theorem dL_law_379 : decode cL_law 379 = .ok (.aload_n 0, 1) := by decide +kernel
theorem dL_law_380 : decode cL_law 380 = .ok (.iload_n 3, 1) := by decide +kernel
theorem dL_law_381 : decode cL_law 381 = .ok (.iconst 1, 1) := by decide +kernel
theorem dL_law_382 : decode cL_law 382 = .ok (.iadd, 1) := by decide +kernel
theorem dL_law_383 : decode cL_law 383 = .ok (.iaload, 1) := by decide +kernel
theorem dL_law_384 : decode cL_law 384 = .ok (.invokevirtual 42, 3) := by decide +kernel
theorem dL_law_387 : decode cL_law 387 = .ok (.if_icmp .eq 614, 3) := by decide +kernel
theorem dL_law_390 : decode cL_law 390 = .ok (.iconst 0, 1) := by decide +kernel
theorem dL_law_391 : decode cL_law 391 = .ok (.ireturn, 1) := by decide +kernel
theorem dL_law_392 : decode cL_law 392 = .ok (.aload_n 1, 1) := by decide +kernel
theorem dL_law_393 : decode cL_law 393 = .ok (.invokevirtual 43, 3) := by decide +kernel
theorem dL_law_396 : decode cL_law 396 = .ok (.aload_n 2, 1) := by decide +kernel
theorem dL_law_397 : decode cL_law 397 = .ok (.invokevirtual 47, 3) := by decide +kernel
theorem dL_law_400 : decode cL_law 400 = .ok (.if_icmp .eq 601, 3) := by decide +kernel
theorem dL_law_403 : decode cL_law 403 = .ok (.iconst 0, 1) := by decide +kernel
theorem dL_law_404 : decode cL_law 404 = .ok (.ireturn, 1) := by decide +kernel
theorem dL_law_405 : decode cL_law 405 = .ok (.aload_n 1, 1) := by decide +kernel
theorem dL_law_406 : decode cL_law 406 = .ok (.aload_n 0, 1) := by decide +kernel
theorem dL_law_407 : decode cL_law 407 = .ok (.iload_n 3, 1) := by decide +kernel
theorem dL_law_408 : decode cL_law 408 = .ok (.iconst 1, 1) := by decide +kernel
theorem dL_law_409 : decode cL_law 409 = .ok (.iadd, 1) := by decide +kernel
theorem dL_law_410 : decode cL_law 410 = .ok (.iaload, 1) := by decide +kernel
theorem dL_law_411 : decode cL_law 411 = .ok (.aload_n 0, 1) := by decide +kernel
theorem dL_law_412 : decode cL_law 412 = .ok (.iload_n 3, 1) := by decide +kernel
theorem dL_law_413 : decode cL_law 413 = .ok (.iconst 2, 1) := by decide +kernel
theorem dL_law_414 : decode cL_law 414 = .ok (.iadd, 1) := by decide +kernel
theorem dL_law_415 : decode cL_law 415 = .ok (.iaload, 1) := by decide +kernel
theorem dL_law_416 : decode cL_law 416 = .ok (.invokevirtual 48, 3) := by decide +kernel
theorem dL_law_419 : decode cL_law 419 = .ok (.aload_n 2, 1) := by decide +kernel
theorem dL_law_420 : decode cL_law 420 = .ok (.aload_n 0, 1) := by decide +kernel
theorem dL_law_421 : decode cL_law 421 = .ok (.iload_n 3, 1) := by decide +kernel
theorem dL_law_422 : decode cL_law 422 = .ok (.iconst 1, 1) := by decide +kernel
theorem dL_law_423 : decode cL_law 423 = .ok (.iadd, 1) := by decide +kernel
theorem dL_law_424 : decode cL_law 424 = .ok (.iaload, 1) := by decide +kernel
theorem dL_law_425 : decode cL_law 425 = .ok (.aload_n 0, 1) := by decide +kernel
theorem dL_law_426 : decode cL_law 426 = .ok (.iload_n 3, 1) := by decide +kernel
theorem dL_law_427 : decode cL_law 427 = .ok (.iconst 2, 1) := by decide +kernel
theorem dL_law_428 : decode cL_law 428 = .ok (.iadd, 1) := by decide +kernel
theorem dL_law_429 : decode cL_law 429 = .ok (.iaload, 1) := by decide +kernel
theorem dL_law_430 : decode cL_law 430 = .ok (.invokevirtual 51, 3) := by decide +kernel
theorem dL_law_433 : decode cL_law 433 = .ok (.if_icmp .eq 568, 3) := by decide +kernel
theorem dL_law_436 : decode cL_law 436 = .ok (.iconst 0, 1) := by decide +kernel
theorem dL_law_437 : decode cL_law 437 = .ok (.ireturn, 1) := by decide +kernel
theorem dL_law_438 : decode cL_law 438 = .ok (.aload_n 1, 1) := by decide +kernel
theorem dL_law_439 : decode cL_law 439 = .ok (.aload_n 0, 1) := by decide +kernel
theorem dL_law_440 : decode cL_law 440 = .ok (.iload_n 3, 1) := by decide +kernel
theorem dL_law_441 : decode cL_law 441 = .ok (.iconst 1, 1) := by decide +kernel
theorem dL_law_442 : decode cL_law 442 = .ok (.iadd, 1) := by decide +kernel
theorem dL_law_443 : decode cL_law 443 = .ok (.iaload, 1) := by decide +kernel
theorem dL_law_444 : decode cL_law 444 = .ok (.aload_n 0, 1) := by decide +kernel
theorem dL_law_445 : decode cL_law 445 = .ok (.iload_n 3, 1) := by decide +kernel
theorem dL_law_446 : decode cL_law 446 = .ok (.iconst 2, 1) := by decide +kernel
theorem dL_law_447 : decode cL_law 447 = .ok (.iadd, 1) := by decide +kernel
theorem dL_law_448 : decode cL_law 448 = .ok (.iaload, 1) := by decide +kernel
theorem dL_law_449 : decode cL_law 449 = .ok (.invokevirtual 52, 3) := by decide +kernel
theorem dL_law_452 : decode cL_law 452 = .ok (.aload_n 2, 1) := by decide +kernel
theorem dL_law_453 : decode cL_law 453 = .ok (.aload_n 0, 1) := by decide +kernel
theorem dL_law_454 : decode cL_law 454 = .ok (.iload_n 3, 1) := by decide +kernel
theorem dL_law_455 : decode cL_law 455 = .ok (.iconst 1, 1) := by decide +kernel
theorem dL_law_456 : decode cL_law 456 = .ok (.iadd, 1) := by decide +kernel
theorem dL_law_457 : decode cL_law 457 = .ok (.iaload, 1) := by decide +kernel
theorem dL_law_458 : decode cL_law 458 = .ok (.aload_n 0, 1) := by decide +kernel
theorem dL_law_459 : decode cL_law 459 = .ok (.iload_n 3, 1) := by decide +kernel
theorem dL_law_460 : decode cL_law 460 = .ok (.iconst 2, 1) := by decide +kernel
theorem dL_law_461 : decode cL_law 461 = .ok (.iadd, 1) := by decide +kernel
theorem dL_law_462 : decode cL_law 462 = .ok (.iaload, 1) := by decide +kernel
theorem dL_law_463 : decode cL_law 463 = .ok (.invokevirtual 55, 3) := by decide +kernel
theorem dL_law_466 : decode cL_law 466 = .ok (.if_icmp .eq 535, 3) := by decide +kernel
theorem dL_law_469 : decode cL_law 469 = .ok (.iconst 0, 1) := by decide +kernel
theorem dL_law_470 : decode cL_law 470 = .ok (.ireturn, 1) := by decide +kernel
theorem dL_law_471 : decode cL_law 471 = .ok (.aload_n 1, 1) := by decide +kernel
theorem dL_law_472 : decode cL_law 472 = .ok (.aload_n 0, 1) := by decide +kernel
theorem dL_law_473 : decode cL_law 473 = .ok (.iload_n 3, 1) := by decide +kernel
theorem dL_law_474 : decode cL_law 474 = .ok (.iconst 1, 1) := by decide +kernel
theorem dL_law_475 : decode cL_law 475 = .ok (.iadd, 1) := by decide +kernel
theorem dL_law_476 : decode cL_law 476 = .ok (.iaload, 1) := by decide +kernel
theorem dL_law_477 : decode cL_law 477 = .ok (.aload_n 0, 1) := by decide +kernel
theorem dL_law_478 : decode cL_law 478 = .ok (.iload_n 3, 1) := by decide +kernel
theorem dL_law_479 : decode cL_law 479 = .ok (.iconst 2, 1) := by decide +kernel
theorem dL_law_480 : decode cL_law 480 = .ok (.iadd, 1) := by decide +kernel
theorem dL_law_481 : decode cL_law 481 = .ok (.iaload, 1) := by decide +kernel
theorem dL_law_482 : decode cL_law 482 = .ok (.invokevirtual 56, 3) := by decide +kernel
theorem dL_law_485 : decode cL_law 485 = .ok (.aload_n 2, 1) := by decide +kernel
theorem dL_law_486 : decode cL_law 486 = .ok (.aload_n 0, 1) := by decide +kernel
theorem dL_law_487 : decode cL_law 487 = .ok (.iload_n 3, 1) := by decide +kernel
theorem dL_law_488 : decode cL_law 488 = .ok (.iconst 1, 1) := by decide +kernel
theorem dL_law_489 : decode cL_law 489 = .ok (.iadd, 1) := by decide +kernel
theorem dL_law_490 : decode cL_law 490 = .ok (.iaload, 1) := by decide +kernel
theorem dL_law_491 : decode cL_law 491 = .ok (.aload_n 0, 1) := by decide +kernel
theorem dL_law_492 : decode cL_law 492 = .ok (.iload_n 3, 1) := by decide +kernel
theorem dL_law_493 : decode cL_law 493 = .ok (.iconst 2, 1) := by decide +kernel
theorem dL_law_494 : decode cL_law 494 = .ok (.iadd, 1) := by decide +kernel
theorem dL_law_495 : decode cL_law 495 = .ok (.iaload, 1) := by decide +kernel
theorem dL_law_496 : decode cL_law 496 = .ok (.invokevirtual 59, 3) := by decide +kernel
theorem dL_law_499 : decode cL_law 499 = .ok (.if_icmp .eq 502, 3) := by decide +kernel
theorem dL_law_502 : decode cL_law 502 = .ok (.iconst 0, 1) := by decide +kernel
theorem dL_law_503 : decode cL_law 503 = .ok (.ireturn, 1) := by decide +kernel
theorem dL_law_504 : decode cL_law 504 = .ok (.aload_n 1, 1) := by decide +kernel
theorem dL_law_505 : decode cL_law 505 = .ok (.aload_n 0, 1) := by decide +kernel
theorem dL_law_506 : decode cL_law 506 = .ok (.iload_n 3, 1) := by decide +kernel
theorem dL_law_507 : decode cL_law 507 = .ok (.iconst 1, 1) := by decide +kernel
theorem dL_law_508 : decode cL_law 508 = .ok (.iadd, 1) := by decide +kernel
theorem dL_law_509 : decode cL_law 509 = .ok (.iaload, 1) := by decide +kernel
theorem dL_law_510 : decode cL_law 510 = .ok (.invokevirtual 60, 3) := by decide +kernel
theorem dL_law_513 : decode cL_law 513 = .ok (.aload_n 2, 1) := by decide +kernel
theorem dL_law_514 : decode cL_law 514 = .ok (.aload_n 0, 1) := by decide +kernel
theorem dL_law_515 : decode cL_law 515 = .ok (.iload_n 3, 1) := by decide +kernel
theorem dL_law_516 : decode cL_law 516 = .ok (.iconst 1, 1) := by decide +kernel
theorem dL_law_517 : decode cL_law 517 = .ok (.iadd, 1) := by decide +kernel
theorem dL_law_518 : decode cL_law 518 = .ok (.iaload, 1) := by decide +kernel
theorem dL_law_519 : decode cL_law 519 = .ok (.invokevirtual 63, 3) := by decide +kernel
theorem dL_law_522 : decode cL_law 522 = .ok (.if_icmp .eq 479, 3) := by decide +kernel
theorem dL_law_525 : decode cL_law 525 = .ok (.iconst 0, 1) := by decide +kernel
theorem dL_law_526 : decode cL_law 526 = .ok (.ireturn, 1) := by decide +kernel
theorem dL_law_527 : decode cL_law 527 = .ok (.aload_n 1, 1) := by decide +kernel
theorem dL_law_528 : decode cL_law 528 = .ok (.aload_n 0, 1) := by decide +kernel
theorem dL_law_529 : decode cL_law 529 = .ok (.iload_n 3, 1) := by decide +kernel
theorem dL_law_530 : decode cL_law 530 = .ok (.iconst 1, 1) := by decide +kernel
theorem dL_law_531 : decode cL_law 531 = .ok (.iadd, 1) := by decide +kernel
theorem dL_law_532 : decode cL_law 532 = .ok (.iaload, 1) := by decide +kernel
theorem dL_law_533 : decode cL_law 533 = .ok (.invokevirtual 64, 3) := by decide +kernel
theorem dL_law_536 : decode cL_law 536 = .ok (.aload_n 2, 1) := by decide +kernel
theorem dL_law_537 : decode cL_law 537 = .ok (.aload_n 0, 1) := by decide +kernel
theorem dL_law_538 : decode cL_law 538 = .ok (.iload_n 3, 1) := by decide +kernel
theorem dL_law_539 : decode cL_law 539 = .ok (.iconst 1, 1) := by decide +kernel
theorem dL_law_540 : decode cL_law 540 = .ok (.iadd, 1) := by decide +kernel
theorem dL_law_541 : decode cL_law 541 = .ok (.iaload, 1) := by decide +kernel
theorem dL_law_542 : decode cL_law 542 = .ok (.invokevirtual 67, 3) := by decide +kernel
theorem dL_law_545 : decode cL_law 545 = .ok (.if_icmp .eq 456, 3) := by decide +kernel
theorem dL_law_548 : decode cL_law 548 = .ok (.iconst 0, 1) := by decide +kernel
theorem dL_law_549 : decode cL_law 549 = .ok (.ireturn, 1) := by decide +kernel
theorem dL_law_550 : decode cL_law 550 = .ok (.aload_n 1, 1) := by decide +kernel
theorem dL_law_551 : decode cL_law 551 = .ok (.aload_n 0, 1) := by decide +kernel
theorem dL_law_552 : decode cL_law 552 = .ok (.iload_n 3, 1) := by decide +kernel
theorem dL_law_553 : decode cL_law 553 = .ok (.iconst 1, 1) := by decide +kernel
theorem dL_law_554 : decode cL_law 554 = .ok (.iadd, 1) := by decide +kernel
theorem dL_law_555 : decode cL_law 555 = .ok (.iaload, 1) := by decide +kernel
theorem dL_law_556 : decode cL_law 556 = .ok (.invokevirtual 68, 3) := by decide +kernel
theorem dL_law_559 : decode cL_law 559 = .ok (.aload_n 2, 1) := by decide +kernel
theorem dL_law_560 : decode cL_law 560 = .ok (.aload_n 0, 1) := by decide +kernel
theorem dL_law_561 : decode cL_law 561 = .ok (.iload_n 3, 1) := by decide +kernel
theorem dL_law_562 : decode cL_law 562 = .ok (.iconst 1, 1) := by decide +kernel
theorem dL_law_563 : decode cL_law 563 = .ok (.iadd, 1) := by decide +kernel
theorem dL_law_564 : decode cL_law 564 = .ok (.iaload, 1) := by decide +kernel
theorem dL_law_565 : decode cL_law 565 = .ok (.invokevirtual 71, 3) := by decide +kernel
theorem dL_law_568 : decode cL_law 568 = .ok (.if_icmp .eq 433, 3) := by decide +kernel
theorem dL_law_571 : decode cL_law 571 = .ok (.iconst 0, 1) := by decide +kernel
theorem dL_law_572 : decode cL_law 572 = .ok (.ireturn, 1) := by decide +kernel
theorem dL_law_573 : decode cL_law 573 = .ok (.aload_n 1, 1) := by decide +kernel
theorem dL_law_574 : decode cL_law 574 = .ok (.aload_n 0, 1) := by decide +kernel
theorem dL_law_575 : decode cL_law 575 = .ok (.iload_n 3, 1) := by decide +kernel
theorem dL_law_576 : decode cL_law 576 = .ok (.iconst 1, 1) := by decide +kernel
theorem dL_law_577 : decode cL_law 577 = .ok (.iadd, 1) := by decide +kernel
theorem dL_law_578 : decode cL_law 578 = .ok (.iaload, 1) := by decide +kernel
theorem dL_law_579 : decode cL_law 579 = .ok (.aload_n 0, 1) := by decide +kernel
theorem dL_law_580 : decode cL_law 580 = .ok (.iload_n 3, 1) := by decide +kernel
theorem dL_law_581 : decode cL_law 581 = .ok (.iconst 2, 1) := by decide +kernel
theorem dL_law_582 : decode cL_law 582 = .ok (.iadd, 1) := by decide +kernel
theorem dL_law_583 : decode cL_law 583 = .ok (.iaload, 1) := by decide +kernel
theorem dL_law_584 : decode cL_law 584 = .ok (.invokevirtual 72, 3) := by decide +kernel
theorem dL_law_587 : decode cL_law 587 = .ok (.aload_n 2, 1) := by decide +kernel
theorem dL_law_588 : decode cL_law 588 = .ok (.aload_n 0, 1) := by decide +kernel
theorem dL_law_589 : decode cL_law 589 = .ok (.iload_n 3, 1) := by decide +kernel
theorem dL_law_590 : decode cL_law 590 = .ok (.iconst 1, 1) := by decide +kernel
theorem dL_law_591 : decode cL_law 591 = .ok (.iadd, 1) := by decide +kernel
theorem dL_law_592 : decode cL_law 592 = .ok (.iaload, 1) := by decide +kernel
theorem dL_law_593 : decode cL_law 593 = .ok (.aload_n 0, 1) := by decide +kernel
theorem dL_law_594 : decode cL_law 594 = .ok (.iload_n 3, 1) := by decide +kernel
theorem dL_law_595 : decode cL_law 595 = .ok (.iconst 2, 1) := by decide +kernel
theorem dL_law_596 : decode cL_law 596 = .ok (.iadd, 1) := by decide +kernel
theorem dL_law_597 : decode cL_law 597 = .ok (.iaload, 1) := by decide +kernel
theorem dL_law_598 : decode cL_law 598 = .ok (.invokevirtual 75, 3) := by decide +kernel
theorem dL_law_601 : decode cL_law 601 = .ok (.if_icmp .eq 400, 3) := by decide +kernel
theorem dL_law_604 : decode cL_law 604 = .ok (.iconst 0, 1) := by decide +kernel
theorem dL_law_605 : decode cL_law 605 = .ok (.ireturn, 1) := by decide +kernel
theorem dL_law_606 : decode cL_law 606 = .ok (.aload_n 1, 1) := by decide +kernel
theorem dL_law_607 : decode cL_law 607 = .ok (.aload_n 0, 1) := by decide +kernel
theorem dL_law_608 : decode cL_law 608 = .ok (.iload_n 3, 1) := by decide +kernel
theorem dL_law_609 : decode cL_law 609 = .ok (.iconst 1, 1) := by decide +kernel
theorem dL_law_610 : decode cL_law 610 = .ok (.iadd, 1) := by decide +kernel
theorem dL_law_611 : decode cL_law 611 = .ok (.iaload, 1) := by decide +kernel
theorem dL_law_612 : decode cL_law 612 = .ok (.aload_n 0, 1) := by decide +kernel
theorem dL_law_613 : decode cL_law 613 = .ok (.iload_n 3, 1) := by decide +kernel
theorem dL_law_614 : decode cL_law 614 = .ok (.iconst 2, 1) := by decide +kernel
theorem dL_law_615 : decode cL_law 615 = .ok (.iadd, 1) := by decide +kernel
theorem dL_law_616 : decode cL_law 616 = .ok (.iaload, 1) := by decide +kernel
theorem dL_law_617 : decode cL_law 617 = .ok (.invokevirtual 76, 3) := by decide +kernel
theorem dL_law_620 : decode cL_law 620 = .ok (.aload_n 2, 1) := by decide +kernel
theorem dL_law_621 : decode cL_law 621 = .ok (.aload_n 0, 1) := by decide +kernel
theorem dL_law_622 : decode cL_law 622 = .ok (.iload_n 3, 1) := by decide +kernel
theorem dL_law_623 : decode cL_law 623 = .ok (.iconst 1, 1) := by decide +kernel
theorem dL_law_624 : decode cL_law 624 = .ok (.iadd, 1) := by decide +kernel
theorem dL_law_625 : decode cL_law 625 = .ok (.iaload, 1) := by decide +kernel
theorem dL_law_626 : decode cL_law 626 = .ok (.aload_n 0, 1) := by decide +kernel
theorem dL_law_627 : decode cL_law 627 = .ok (.iload_n 3, 1) := by decide +kernel
theorem dL_law_628 : decode cL_law 628 = .ok (.iconst 2, 1) := by decide +kernel
theorem dL_law_629 : decode cL_law 629 = .ok (.iadd, 1) := by decide +kernel
theorem dL_law_630 : decode cL_law 630 = .ok (.iaload, 1) := by decide +kernel
theorem dL_law_631 : decode cL_law 631 = .ok (.invokevirtual 79, 3) := by decide +kernel
theorem dL_law_634 : decode cL_law 634 = .ok (.if_icmp .eq 367, 3) := by decide +kernel
theorem dL_law_637 : decode cL_law 637 = .ok (.iconst 0, 1) := by decide +kernel
theorem dL_law_638 : decode cL_law 638 = .ok (.ireturn, 1) := by decide +kernel
theorem dL_law_639 : decode cL_law 639 = .ok (.aload_n 1, 1) := by decide +kernel
theorem dL_law_640 : decode cL_law 640 = .ok (.aload_n 0, 1) := by decide +kernel
theorem dL_law_641 : decode cL_law 641 = .ok (.iload_n 3, 1) := by decide +kernel
theorem dL_law_642 : decode cL_law 642 = .ok (.iconst 1, 1) := by decide +kernel
theorem dL_law_643 : decode cL_law 643 = .ok (.iadd, 1) := by decide +kernel
theorem dL_law_644 : decode cL_law 644 = .ok (.iaload, 1) := by decide +kernel
theorem dL_law_645 : decode cL_law 645 = .ok (.aload_n 0, 1) := by decide +kernel
theorem dL_law_646 : decode cL_law 646 = .ok (.iload_n 3, 1) := by decide +kernel
theorem dL_law_647 : decode cL_law 647 = .ok (.iconst 2, 1) := by decide +kernel
theorem dL_law_648 : decode cL_law 648 = .ok (.iadd, 1) := by decide +kernel
theorem dL_law_649 : decode cL_law 649 = .ok (.iaload, 1) := by decide +kernel
theorem dL_law_650 : decode cL_law 650 = .ok (.aload_n 0, 1) := by decide +kernel
theorem dL_law_651 : decode cL_law 651 = .ok (.iload_n 3, 1) := by decide +kernel
theorem dL_law_652 : decode cL_law 652 = .ok (.iconst 3, 1) := by decide +kernel
theorem dL_law_653 : decode cL_law 653 = .ok (.iadd, 1) := by decide +kernel
theorem dL_law_654 : decode cL_law 654 = .ok (.iaload, 1) := by decide +kernel
theorem dL_law_655 : decode cL_law 655 = .ok (.invokevirtual 80, 3) := by decide +kernel
theorem dL_law_658 : decode cL_law 658 = .ok (.aload_n 2, 1) := by decide +kernel
theorem dL_law_659 : decode cL_law 659 = .ok (.aload_n 0, 1) := by decide +kernel
theorem dL_law_660 : decode cL_law 660 = .ok (.iload_n 3, 1) := by decide +kernel
theorem dL_law_661 : decode cL_law 661 = .ok (.iconst 1, 1) := by decide +kernel
theorem dL_law_662 : decode cL_law 662 = .ok (.iadd, 1) := by decide +kernel
theorem dL_law_663 : decode cL_law 663 = .ok (.iaload, 1) := by decide +kernel
theorem dL_law_664 : decode cL_law 664 = .ok (.aload_n 0, 1) := by decide +kernel
theorem dL_law_665 : decode cL_law 665 = .ok (.iload_n 3, 1) := by decide +kernel
theorem dL_law_666 : decode cL_law 666 = .ok (.iconst 2, 1) := by decide +kernel
theorem dL_law_667 : decode cL_law 667 = .ok (.iadd, 1) := by decide +kernel
theorem dL_law_668 : decode cL_law 668 = .ok (.iaload, 1) := by decide +kernel
theorem dL_law_669 : decode cL_law 669 = .ok (.aload_n 0, 1) := by decide +kernel
theorem dL_law_670 : decode cL_law 670 = .ok (.iload_n 3, 1) := by decide +kernel
theorem dL_law_671 : decode cL_law 671 = .ok (.iconst 3, 1) := by decide +kernel
theorem dL_law_672 : decode cL_law 672 = .ok (.iadd, 1) := by decide +kernel
theorem dL_law_673 : decode cL_law 673 = .ok (.iaload, 1) := by decide +kernel
theorem dL_law_674 : decode cL_law 674 = .ok (.invokevirtual 84, 3) := by decide +kernel
theorem dL_law_677 : decode cL_law 677 = .ok (.if_icmp .eq 324, 3) := by decide +kernel
theorem dL_law_680 : decode cL_law 680 = .ok (.iconst 0, 1) := by decide +kernel
theorem dL_law_681 : decode cL_law 681 = .ok (.ireturn, 1) := by decide +kernel
theorem dL_law_682 : decode cL_law 682 = .ok (.aload_n 1, 1) := by decide +kernel
theorem dL_law_683 : decode cL_law 683 = .ok (.aload_n 0, 1) := by decide +kernel
theorem dL_law_684 : decode cL_law 684 = .ok (.iload_n 3, 1) := by decide +kernel
theorem dL_law_685 : decode cL_law 685 = .ok (.iconst 1, 1) := by decide +kernel
theorem dL_law_686 : decode cL_law 686 = .ok (.iadd, 1) := by decide +kernel
theorem dL_law_687 : decode cL_law 687 = .ok (.iaload, 1) := by decide +kernel
theorem dL_law_688 : decode cL_law 688 = .ok (.invokevirtual 85, 3) := by decide +kernel
theorem dL_law_691 : decode cL_law 691 = .ok (.aload_n 2, 1) := by decide +kernel
theorem dL_law_692 : decode cL_law 692 = .ok (.aload_n 0, 1) := by decide +kernel
theorem dL_law_693 : decode cL_law 693 = .ok (.iload_n 3, 1) := by decide +kernel
theorem dL_law_694 : decode cL_law 694 = .ok (.iconst 1, 1) := by decide +kernel
theorem dL_law_695 : decode cL_law 695 = .ok (.iadd, 1) := by decide +kernel
theorem dL_law_696 : decode cL_law 696 = .ok (.iaload, 1) := by decide +kernel
theorem dL_law_697 : decode cL_law 697 = .ok (.invokevirtual 88, 3) := by decide +kernel
theorem dL_law_700 : decode cL_law 700 = .ok (.if_icmp .eq 301, 3) := by decide +kernel
theorem dL_law_703 : decode cL_law 703 = .ok (.iconst 0, 1) := by decide +kernel
theorem dL_law_704 : decode cL_law 704 = .ok (.ireturn, 1) := by decide +kernel
theorem dL_law_705 : decode cL_law 705 = .ok (.aload_n 1, 1) := by decide +kernel
theorem dL_law_706 : decode cL_law 706 = .ok (.aload_n 0, 1) := by decide +kernel
theorem dL_law_707 : decode cL_law 707 = .ok (.iload_n 3, 1) := by decide +kernel
theorem dL_law_708 : decode cL_law 708 = .ok (.iconst 1, 1) := by decide +kernel
theorem dL_law_709 : decode cL_law 709 = .ok (.iadd, 1) := by decide +kernel
theorem dL_law_710 : decode cL_law 710 = .ok (.iaload, 1) := by decide +kernel
theorem dL_law_711 : decode cL_law 711 = .ok (.invokevirtual 89, 3) := by decide +kernel
theorem dL_law_714 : decode cL_law 714 = .ok (.aload_n 2, 1) := by decide +kernel
theorem dL_law_715 : decode cL_law 715 = .ok (.aload_n 0, 1) := by decide +kernel
theorem dL_law_716 : decode cL_law 716 = .ok (.iload_n 3, 1) := by decide +kernel
theorem dL_law_717 : decode cL_law 717 = .ok (.iconst 1, 1) := by decide +kernel
theorem dL_law_718 : decode cL_law 718 = .ok (.iadd, 1) := by decide +kernel
theorem dL_law_719 : decode cL_law 719 = .ok (.iaload, 1) := by decide +kernel
theorem dL_law_720 : decode cL_law 720 = .ok (.invokevirtual 92, 3) := by decide +kernel
theorem dL_law_723 : decode cL_law 723 = .ok (.if_icmp .eq 278, 3) := by decide +kernel
theorem dL_law_726 : decode cL_law 726 = .ok (.iconst 0, 1) := by decide +kernel
theorem dL_law_727 : decode cL_law 727 = .ok (.ireturn, 1) := by decide +kernel
theorem dL_law_728 : decode cL_law 728 = .ok (.aload_n 1, 1) := by decide +kernel
theorem dL_law_729 : decode cL_law 729 = .ok (.aload_n 0, 1) := by decide +kernel
theorem dL_law_730 : decode cL_law 730 = .ok (.iload_n 3, 1) := by decide +kernel
theorem dL_law_731 : decode cL_law 731 = .ok (.iconst 1, 1) := by decide +kernel
theorem dL_law_732 : decode cL_law 732 = .ok (.iadd, 1) := by decide +kernel
theorem dL_law_733 : decode cL_law 733 = .ok (.iaload, 1) := by decide +kernel
theorem dL_law_734 : decode cL_law 734 = .ok (.aload_n 0, 1) := by decide +kernel
theorem dL_law_735 : decode cL_law 735 = .ok (.iload_n 3, 1) := by decide +kernel
theorem dL_law_736 : decode cL_law 736 = .ok (.iconst 2, 1) := by decide +kernel
theorem dL_law_737 : decode cL_law 737 = .ok (.iadd, 1) := by decide +kernel
theorem dL_law_738 : decode cL_law 738 = .ok (.iaload, 1) := by decide +kernel
theorem dL_law_739 : decode cL_law 739 = .ok (.aload_n 0, 1) := by decide +kernel
theorem dL_law_740 : decode cL_law 740 = .ok (.iload_n 3, 1) := by decide +kernel
theorem dL_law_741 : decode cL_law 741 = .ok (.iconst 3, 1) := by decide +kernel
theorem dL_law_742 : decode cL_law 742 = .ok (.iadd, 1) := by decide +kernel
theorem dL_law_743 : decode cL_law 743 = .ok (.iaload, 1) := by decide +kernel
theorem dL_law_744 : decode cL_law 744 = .ok (.aload_n 0, 1) := by decide +kernel
theorem dL_law_745 : decode cL_law 745 = .ok (.iload_n 3, 1) := by decide +kernel
theorem dL_law_746 : decode cL_law 746 = .ok (.iconst 4, 1) := by decide +kernel
theorem dL_law_747 : decode cL_law 747 = .ok (.iadd, 1) := by decide +kernel
theorem dL_law_748 : decode cL_law 748 = .ok (.iaload, 1) := by decide +kernel
theorem dL_law_749 : decode cL_law 749 = .ok (.invokevirtual 93, 3) := by decide +kernel
theorem dL_law_752 : decode cL_law 752 = .ok (.aload_n 2, 1) := by decide +kernel
theorem dL_law_753 : decode cL_law 753 = .ok (.aload_n 0, 1) := by decide +kernel
theorem dL_law_754 : decode cL_law 754 = .ok (.iload_n 3, 1) := by decide +kernel
theorem dL_law_755 : decode cL_law 755 = .ok (.iconst 1, 1) := by decide +kernel
theorem dL_law_756 : decode cL_law 756 = .ok (.iadd, 1) := by decide +kernel
theorem dL_law_757 : decode cL_law 757 = .ok (.iaload, 1) := by decide +kernel
theorem dL_law_758 : decode cL_law 758 = .ok (.aload_n 0, 1) := by decide +kernel
theorem dL_law_759 : decode cL_law 759 = .ok (.iload_n 3, 1) := by decide +kernel
theorem dL_law_760 : decode cL_law 760 = .ok (.iconst 2, 1) := by decide +kernel
theorem dL_law_761 : decode cL_law 761 = .ok (.iadd, 1) := by decide +kernel
theorem dL_law_762 : decode cL_law 762 = .ok (.iaload, 1) := by decide +kernel
theorem dL_law_763 : decode cL_law 763 = .ok (.aload_n 0, 1) := by decide +kernel
theorem dL_law_764 : decode cL_law 764 = .ok (.iload_n 3, 1) := by decide +kernel
theorem dL_law_765 : decode cL_law 765 = .ok (.iconst 3, 1) := by decide +kernel
theorem dL_law_766 : decode cL_law 766 = .ok (.iadd, 1) := by decide +kernel
theorem dL_law_767 : decode cL_law 767 = .ok (.iaload, 1) := by decide +kernel
theorem dL_law_768 : decode cL_law 768 = .ok (.aload_n 0, 1) := by decide +kernel
theorem dL_law_769 : decode cL_law 769 = .ok (.iload_n 3, 1) := by decide +kernel
theorem dL_law_770 : decode cL_law 770 = .ok (.iconst 4, 1) := by decide +kernel
theorem dL_law_771 : decode cL_law 771 = .ok (.iadd, 1) := by decide +kernel
theorem dL_law_772 : decode cL_law 772 = .ok (.iaload, 1) := by decide +kernel
theorem dL_law_773 : decode cL_law 773 = .ok (.invokevirtual 96, 3) := by decide +kernel
theorem dL_law_776 : decode cL_law 776 = .ok (.if_icmp .eq 225, 3) := by decide +kernel
theorem dL_law_779 : decode cL_law 779 = .ok (.iconst 0, 1) := by decide +kernel
theorem dL_law_780 : decode cL_law 780 = .ok (.ireturn, 1) := by decide +kernel
theorem dL_law_781 : decode cL_law 781 = .ok (.aload_n 1, 1) := by decide +kernel
theorem dL_law_782 : decode cL_law 782 = .ok (.aload_n 0, 1) := by decide +kernel
theorem dL_law_783 : decode cL_law 783 = .ok (.iload_n 3, 1) := by decide +kernel
theorem dL_law_784 : decode cL_law 784 = .ok (.iconst 1, 1) := by decide +kernel
theorem dL_law_785 : decode cL_law 785 = .ok (.iadd, 1) := by decide +kernel
theorem dL_law_786 : decode cL_law 786 = .ok (.iaload, 1) := by decide +kernel
theorem dL_law_787 : decode cL_law 787 = .ok (.aload_n 0, 1) := by decide +kernel
theorem dL_law_788 : decode cL_law 788 = .ok (.iload_n 3, 1) := by decide +kernel
theorem dL_law_789 : decode cL_law 789 = .ok (.iconst 2, 1) := by decide +kernel
theorem dL_law_790 : decode cL_law 790 = .ok (.iadd, 1) := by decide +kernel
theorem dL_law_791 : decode cL_law 791 = .ok (.iaload, 1) := by decide +kernel
theorem dL_law_792 : decode cL_law 792 = .ok (.aload_n 0, 1) := by decide +kernel
theorem dL_law_793 : decode cL_law 793 = .ok (.iload_n 3, 1) := by decide +kernel
theorem dL_law_794 : decode cL_law 794 = .ok (.iconst 3, 1) := by decide +kernel
theorem dL_law_795 : decode cL_law 795 = .ok (.iadd, 1) := by decide +kernel
theorem dL_law_796 : decode cL_law 796 = .ok (.iaload, 1) := by decide +kernel
theorem dL_law_797 : decode cL_law 797 = .ok (.invokevirtual 97, 3) := by decide +kernel
theorem dL_law_800 : decode cL_law 800 = .ok (.aload_n 2, 1) := by decide +kernel
theorem dL_law_801 : decode cL_law 801 = .ok (.aload_n 0, 1) := by decide +kernel
theorem dL_law_802 : decode cL_law 802 = .ok (.iload_n 3, 1) := by decide +kernel
theorem dL_law_803 : decode cL_law 803 = .ok (.iconst 1, 1) := by decide +kernel
theorem dL_law_804 : decode cL_law 804 = .ok (.iadd, 1) := by decide +kernel
theorem dL_law_805 : decode cL_law 805 = .ok (.iaload, 1) := by decide +kernel
theorem dL_law_806 : decode cL_law 806 = .ok (.aload_n 0, 1) := by decide +kernel
theorem dL_law_807 : decode cL_law 807 = .ok (.iload_n 3, 1) := by decide +kernel
theorem dL_law_808 : decode cL_law 808 = .ok (.iconst 2, 1) := by decide +kernel
theorem dL_law_809 : decode cL_law 809 = .ok (.iadd, 1) := by decide +kernel
theorem dL_law_810 : decode cL_law 810 = .ok (.iaload, 1) := by decide +kernel
theorem dL_law_811 : decode cL_law 811 = .ok (.aload_n 0, 1) := by decide +kernel
theorem dL_law_812 : decode cL_law 812 = .ok (.iload_n 3, 1) := by decide +kernel
theorem dL_law_813 : decode cL_law 813 = .ok (.iconst 3, 1) := by decide +kernel
theorem dL_law_814 : decode cL_law 814 = .ok (.iadd, 1) := by decide +kernel
theorem dL_law_815 : decode cL_law 815 = .ok (.iaload, 1) := by decide +kernel
theorem dL_law_816 : decode cL_law 816 = .ok (.invokevirtual 100, 3) := by decide +kernel
theorem dL_law_819 : decode cL_law 819 = .ok (.if_icmp .eq 182, 3) := by decide +kernel
theorem dL_law_822 : decode cL_law 822 = .ok (.iconst 0, 1) := by decide +kernel
theorem dL_law_823 : decode cL_law 823 = .ok (.ireturn, 1) := by decide +kernel
theorem dL_law_824 : decode cL_law 824 = .ok (.aload_n 1, 1) := by decide +kernel
theorem dL_law_825 : decode cL_law 825 = .ok (.aload_n 0, 1) := by decide +kernel
theorem dL_law_826 : decode cL_law 826 = .ok (.iload_n 3, 1) := by decide +kernel
theorem dL_law_827 : decode cL_law 827 = .ok (.iconst 1, 1) := by decide +kernel
theorem dL_law_828 : decode cL_law 828 = .ok (.iadd, 1) := by decide +kernel
theorem dL_law_829 : decode cL_law 829 = .ok (.iaload, 1) := by decide +kernel
theorem dL_law_830 : decode cL_law 830 = .ok (.invokevirtual 101, 3) := by decide +kernel
theorem dL_law_833 : decode cL_law 833 = .ok (.aload_n 2, 1) := by decide +kernel
theorem dL_law_834 : decode cL_law 834 = .ok (.aload_n 0, 1) := by decide +kernel
theorem dL_law_835 : decode cL_law 835 = .ok (.iload_n 3, 1) := by decide +kernel
theorem dL_law_836 : decode cL_law 836 = .ok (.iconst 1, 1) := by decide +kernel
theorem dL_law_837 : decode cL_law 837 = .ok (.iadd, 1) := by decide +kernel
theorem dL_law_838 : decode cL_law 838 = .ok (.iaload, 1) := by decide +kernel
theorem dL_law_839 : decode cL_law 839 = .ok (.invokevirtual 104, 3) := by decide +kernel
theorem dL_law_842 : decode cL_law 842 = .ok (.if_icmp .eq 159, 3) := by decide +kernel
theorem dL_law_845 : decode cL_law 845 = .ok (.iconst 0, 1) := by decide +kernel
theorem dL_law_846 : decode cL_law 846 = .ok (.ireturn, 1) := by decide +kernel
theorem dL_law_847 : decode cL_law 847 = .ok (.aload_n 1, 1) := by decide +kernel
theorem dL_law_848 : decode cL_law 848 = .ok (.aload_n 0, 1) := by decide +kernel
theorem dL_law_849 : decode cL_law 849 = .ok (.iload_n 3, 1) := by decide +kernel
theorem dL_law_850 : decode cL_law 850 = .ok (.iconst 1, 1) := by decide +kernel
theorem dL_law_851 : decode cL_law 851 = .ok (.iadd, 1) := by decide +kernel
theorem dL_law_852 : decode cL_law 852 = .ok (.iaload, 1) := by decide +kernel
theorem dL_law_853 : decode cL_law 853 = .ok (.invokevirtual 105, 3) := by decide +kernel
theorem dL_law_856 : decode cL_law 856 = .ok (.aload_n 2, 1) := by decide +kernel
theorem dL_law_857 : decode cL_law 857 = .ok (.aload_n 0, 1) := by decide +kernel
theorem dL_law_858 : decode cL_law 858 = .ok (.iload_n 3, 1) := by decide +kernel
theorem dL_law_859 : decode cL_law 859 = .ok (.iconst 1, 1) := by decide +kernel
theorem dL_law_860 : decode cL_law 860 = .ok (.iadd, 1) := by decide +kernel
theorem dL_law_861 : decode cL_law 861 = .ok (.iaload, 1) := by decide +kernel
theorem dL_law_862 : decode cL_law 862 = .ok (.invokevirtual 108, 3) := by decide +kernel
theorem dL_law_865 : decode cL_law 865 = .ok (.if_icmp .eq 136, 3) := by decide +kernel
theorem dL_law_868 : decode cL_law 868 = .ok (.iconst 0, 1) := by decide +kernel
theorem dL_law_869 : decode cL_law 869 = .ok (.ireturn, 1) := by decide +kernel
theorem dL_law_870 : decode cL_law 870 = .ok (.aload_n 1, 1) := by decide +kernel
theorem dL_law_871 : decode cL_law 871 = .ok (.invokevirtual 109, 3) := by decide +kernel
theorem dL_law_874 : decode cL_law 874 = .ok (.aload_n 2, 1) := by decide +kernel
theorem dL_law_875 : decode cL_law 875 = .ok (.invokevirtual 112, 3) := by decide +kernel
theorem dL_law_878 : decode cL_law 878 = .ok (.if_icmp .eq 123, 3) := by decide +kernel
theorem dL_law_881 : decode cL_law 881 = .ok (.iconst 0, 1) := by decide +kernel
theorem dL_law_882 : decode cL_law 882 = .ok (.ireturn, 1) := by decide +kernel
theorem dL_law_883 : decode cL_law 883 = .ok (.aload_n 1, 1) := by decide +kernel
theorem dL_law_884 : decode cL_law 884 = .ok (.aload_n 0, 1) := by decide +kernel
theorem dL_law_885 : decode cL_law 885 = .ok (.iload_n 3, 1) := by decide +kernel
theorem dL_law_886 : decode cL_law 886 = .ok (.iconst 1, 1) := by decide +kernel
theorem dL_law_887 : decode cL_law 887 = .ok (.iadd, 1) := by decide +kernel
theorem dL_law_888 : decode cL_law 888 = .ok (.iaload, 1) := by decide +kernel
theorem dL_law_889 : decode cL_law 889 = .ok (.invokevirtual 113, 3) := by decide +kernel
theorem dL_law_892 : decode cL_law 892 = .ok (.aload_n 2, 1) := by decide +kernel
theorem dL_law_893 : decode cL_law 893 = .ok (.aload_n 0, 1) := by decide +kernel
theorem dL_law_894 : decode cL_law 894 = .ok (.iload_n 3, 1) := by decide +kernel
theorem dL_law_895 : decode cL_law 895 = .ok (.iconst 1, 1) := by decide +kernel
theorem dL_law_896 : decode cL_law 896 = .ok (.iadd, 1) := by decide +kernel
theorem dL_law_897 : decode cL_law 897 = .ok (.iaload, 1) := by decide +kernel
theorem dL_law_898 : decode cL_law 898 = .ok (.invokevirtual 116, 3) := by decide +kernel
theorem dL_law_901 : decode cL_law 901 = .ok (.if_icmp .eq 100, 3) := by decide +kernel
theorem dL_law_904 : decode cL_law 904 = .ok (.iconst 0, 1) := by decide +kernel
theorem dL_law_905 : decode cL_law 905 = .ok (.ireturn, 1) := by decide +kernel
theorem dL_law_906 : decode cL_law 906 = .ok (.aload_n 1, 1) := by decide +kernel
theorem dL_law_907 : decode cL_law 907 = .ok (.aload_n 0, 1) := by decide +kernel
theorem dL_law_908 : decode cL_law 908 = .ok (.iload_n 3, 1) := by decide +kernel
theorem dL_law_909 : decode cL_law 909 = .ok (.iconst 1, 1) := by decide +kernel
theorem dL_law_910 : decode cL_law 910 = .ok (.iadd, 1) := by decide +kernel
theorem dL_law_911 : decode cL_law 911 = .ok (.iaload, 1) := by decide +kernel
theorem dL_law_912 : decode cL_law 912 = .ok (.invokevirtual 117, 3) := by decide +kernel
theorem dL_law_915 : decode cL_law 915 = .ok (.aload_n 2, 1) := by decide +kernel
theorem dL_law_916 : decode cL_law 916 = .ok (.aload_n 0, 1) := by decide +kernel
theorem dL_law_917 : decode cL_law 917 = .ok (.iload_n 3, 1) := by decide +kernel
theorem dL_law_918 : decode cL_law 918 = .ok (.iconst 1, 1) := by decide +kernel
theorem dL_law_919 : decode cL_law 919 = .ok (.iadd, 1) := by decide +kernel
theorem dL_law_920 : decode cL_law 920 = .ok (.iaload, 1) := by decide +kernel
theorem dL_law_921 : decode cL_law 921 = .ok (.invokevirtual 120, 3) := by decide +kernel
theorem dL_law_924 : decode cL_law 924 = .ok (.if_icmp .eq 77, 3) := by decide +kernel
theorem dL_law_927 : decode cL_law 927 = .ok (.iconst 0, 1) := by decide +kernel
theorem dL_law_928 : decode cL_law 928 = .ok (.ireturn, 1) := by decide +kernel
theorem dL_law_929 : decode cL_law 929 = .ok (.aload_n 1, 1) := by decide +kernel
theorem dL_law_930 : decode cL_law 930 = .ok (.invokevirtual 121, 3) := by decide +kernel
theorem dL_law_933 : decode cL_law 933 = .ok (.aload_n 2, 1) := by decide +kernel
theorem dL_law_934 : decode cL_law 934 = .ok (.invokevirtual 124, 3) := by decide +kernel
theorem dL_law_937 : decode cL_law 937 = .ok (.if_icmp .eq 64, 3) := by decide +kernel
theorem dL_law_940 : decode cL_law 940 = .ok (.iconst 0, 1) := by decide +kernel
theorem dL_law_941 : decode cL_law 941 = .ok (.ireturn, 1) := by decide +kernel
theorem dL_law_942 : decode cL_law 942 = .ok (.aload_n 1, 1) := by decide +kernel
theorem dL_law_943 : decode cL_law 943 = .ok (.invokevirtual 125, 3) := by decide +kernel
theorem dL_law_946 : decode cL_law 946 = .ok (.aload_n 2, 1) := by decide +kernel
theorem dL_law_947 : decode cL_law 947 = .ok (.invokevirtual 129, 3) := by decide +kernel
theorem dL_law_950 : decode cL_law 950 = .ok (.if_icmp .eq 51, 3) := by decide +kernel
theorem dL_law_953 : decode cL_law 953 = .ok (.iconst 0, 1) := by decide +kernel
theorem dL_law_954 : decode cL_law 954 = .ok (.ireturn, 1) := by decide +kernel
theorem dL_law_955 : decode cL_law 955 = .ok (.aload_n 1, 1) := by decide +kernel
theorem dL_law_956 : decode cL_law 956 = .ok (.aload_n 0, 1) := by decide +kernel
theorem dL_law_957 : decode cL_law 957 = .ok (.iload_n 3, 1) := by decide +kernel
theorem dL_law_958 : decode cL_law 958 = .ok (.iconst 1, 1) := by decide +kernel
theorem dL_law_959 : decode cL_law 959 = .ok (.iadd, 1) := by decide +kernel
theorem dL_law_960 : decode cL_law 960 = .ok (.iaload, 1) := by decide +kernel
theorem dL_law_961 : decode cL_law 961 = .ok (.invokevirtual 130, 3) := by decide +kernel
theorem dL_law_964 : decode cL_law 964 = .ok (.aload_n 2, 1) := by decide +kernel
theorem dL_law_965 : decode cL_law 965 = .ok (.aload_n 0, 1) := by decide +kernel
theorem dL_law_966 : decode cL_law 966 = .ok (.iload_n 3, 1) := by decide +kernel
theorem dL_law_967 : decode cL_law 967 = .ok (.iconst 1, 1) := by decide +kernel
theorem dL_law_968 : decode cL_law 968 = .ok (.iadd, 1) := by decide +kernel
theorem dL_law_969 : decode cL_law 969 = .ok (.iaload, 1) := by decide +kernel
theorem dL_law_970 : decode cL_law 970 = .ok (.invokevirtual 133, 3) := by decide +kernel
theorem dL_law_973 : decode cL_law 973 = .ok (.if_icmp .eq 28, 3) := by decide +kernel
theorem dL_law_976 : decode cL_law 976 = .ok (.iconst 0, 1) := by decide +kernel
theorem dL_law_977 : decode cL_law 977 = .ok (.ireturn, 1) := by decide +kernel
theorem dL_law_978 : decode cL_law 978 = .ok (.aload_n 1, 1) := by decide +kernel
theorem dL_law_979 : decode cL_law 979 = .ok (.aload_n 0, 1) := by decide +kernel
theorem dL_law_980 : decode cL_law 980 = .ok (.iload_n 3, 1) := by decide +kernel
theorem dL_law_981 : decode cL_law 981 = .ok (.iconst 1, 1) := by decide +kernel
theorem dL_law_982 : decode cL_law 982 = .ok (.iadd, 1) := by decide +kernel
theorem dL_law_983 : decode cL_law 983 = .ok (.iaload, 1) := by decide +kernel
theorem dL_law_984 : decode cL_law 984 = .ok (.invokevirtual 134, 3) := by decide +kernel
theorem dL_law_987 : decode cL_law 987 = .ok (.aload_n 2, 1) := by decide +kernel
theorem dL_law_988 : decode cL_law 988 = .ok (.aload_n 0, 1) := by decide +kernel
theorem dL_law_989 : decode cL_law 989 = .ok (.iload_n 3, 1) := by decide +kernel
theorem dL_law_990 : decode cL_law 990 = .ok (.iconst 1, 1) := by decide +kernel
theorem dL_law_991 : decode cL_law 991 = .ok (.iadd, 1) := by decide +kernel
theorem dL_law_992 : decode cL_law 992 = .ok (.iaload, 1) := by decide +kernel
theorem dL_law_993 : decode cL_law 993 = .ok (.invokevirtual 137, 3) := by decide +kernel
theorem dL_law_996 : decode cL_law 996 = .ok (.if_icmp .eq 5, 3) := by decide +kernel
theorem dL_law_999 : decode cL_law 999 = .ok (.iconst 0, 1) := by decide +kernel
theorem dL_law_1000 : decode cL_law 1000 = .ok (.ireturn, 1) := by decide +kernel
theorem dL_law_1001 : decode cL_law 1001 = .ok (.iinc 3 6, 3) := by decide +kernel
theorem dL_law_1004 : decode cL_law 1004 = .ok (.goto (-986), 3) := by decide +kernel
theorem dL_law_1007 : decode cL_law 1007 = .ok (.iconst 1, 1) := by decide +kernel
theorem dL_law_1008 : decode cL_law 1008 = .ok (.ireturn, 1) := by decide +kernel
