theorem dX13_is_0 : decode cX13_is 0 = .ok (.iload_n 0, 1) := by decide +kernel
theorem dX13_is_1 : decode cX13_is 1 = .ok (.iload_n 1, 1) := by decide +kernel
theorem dX13_is_2 : decode cX13_is 2 = .ok (.if_icmp .lt 12, 3) := by decide +kernel
theorem dX13_is_5 : decode cX13_is 5 = .ok (.iload_n 0, 1) := by decide +kernel
theorem dX13_is_6 : decode cX13_is 6 = .ok (.iload_n 2, 1) := by decide +kernel
theorem dX13_is_7 : decode cX13_is 7 = .ok (.if_icmp .gt 7, 3) := by decide +kernel
theorem dX13_is_10 : decode cX13_is 10 = .ok (.iconst 1, 1) := by decide +kernel
theorem dX13_is_11 : decode cX13_is 11 = .ok (.goto 4, 3) := by decide +kernel
theorem dX13_is_14 : decode cX13_is 14 = .ok (.iconst 0, 1) := by decide +kernel
theorem dX13_is_15 : decode cX13_is 15 = .ok (.ireturn, 1) := by decide +kernel
theorem dX13_put_0 : decode cX13_put 0 = .ok (.bipush 24, 2) := by decide +kernel
theorem dX13_put_2 : decode cX13_put 2 = .ok (.istore_n 2, 1) := by decide +kernel
theorem dX13_put_3 : decode cX13_put 3 = .ok (.iload_n 2, 1) := by decide +kernel
theorem dX13_put_4 : decode cX13_put 4 = .ok (.ifCond .lt 35, 3) := by decide +kernel
theorem dX13_put_7 : decode cX13_put 7 = .ok (.aload_n 0, 1) := by decide +kernel
theorem dX13_put_8 : decode cX13_put 8 = .ok (.getfield 7, 3) := by decide +kernel
theorem dX13_put_11 : decode cX13_put 11 = .ok (.aload_n 0, 1) := by decide +kernel
theorem dX13_put_12 : decode cX13_put 12 = .ok (.getfield 13, 3) := by decide +kernel
theorem dX13_put_15 : decode cX13_put 15 = .ok (.iload_n 1, 1) := by decide +kernel
theorem dX13_put_16 : decode cX13_put 16 = .ok (.iload_n 2, 1) := by decide +kernel
theorem dX13_put_17 : decode cX13_put 17 = .ok (.ishr, 1) := by decide +kernel
theorem dX13_put_18 : decode cX13_put 18 = .ok (.sipush 255, 3) := by decide +kernel
theorem dX13_put_21 : decode cX13_put 21 = .ok (.iand, 1) := by decide +kernel
theorem dX13_put_22 : decode cX13_put 22 = .ok (.iastore, 1) := by decide +kernel
theorem dX13_put_23 : decode cX13_put 23 = .ok (.aload_n 0, 1) := by decide +kernel
theorem dX13_put_24 : decode cX13_put 24 = .ok (.dup, 1) := by decide +kernel
theorem dX13_put_25 : decode cX13_put 25 = .ok (.getfield 13, 3) := by decide +kernel
theorem dX13_put_28 : decode cX13_put 28 = .ok (.iconst 1, 1) := by decide +kernel
theorem dX13_put_29 : decode cX13_put 29 = .ok (.iadd, 1) := by decide +kernel
theorem dX13_put_30 : decode cX13_put 30 = .ok (.putfield 13, 3) := by decide +kernel
theorem dX13_put_33 : decode cX13_put 33 = .ok (.iinc 2 (-8), 3) := by decide +kernel
theorem dX13_put_36 : decode cX13_put 36 = .ok (.goto (-33), 3) := by decide +kernel
theorem dX13_put_39 : decode cX13_put 39 = .ok (.return_, 1) := by decide +kernel
theorem dX13_feed_0 : decode cX13_feed 0 = .ok (.aload_n 0, 1) := by decide +kernel
theorem dX13_feed_1 : decode cX13_feed 1 = .ok (.getfield 13, 3) := by decide +kernel
theorem dX13_feed_4 : decode cX13_feed 4 = .ok (.bipush 20, 2) := by decide +kernel
theorem dX13_feed_6 : decode cX13_feed 6 = .ok (.iadd, 1) := by decide +kernel
theorem dX13_feed_7 : decode cX13_feed 7 = .ok (.sipush 1600, 3) := by decide +kernel
theorem dX13_feed_10 : decode cX13_feed 10 = .ok (.if_icmp .le 9, 3) := by decide +kernel
theorem dX13_feed_13 : decode cX13_feed 13 = .ok (.aload_n 0, 1) := by decide +kernel
theorem dX13_feed_14 : decode cX13_feed 14 = .ok (.iconst 0, 1) := by decide +kernel
theorem dX13_feed_15 : decode cX13_feed 15 = .ok (.invokevirtual 250, 3) := by decide +kernel
theorem dX13_feed_18 : decode cX13_feed 18 = .ok (.ireturn, 1) := by decide +kernel
theorem dX13_feed_19 : decode cX13_feed 19 = .ok (.aload_n 0, 1) := by decide +kernel
theorem dX13_feed_20 : decode cX13_feed 20 = .ok (.iload_n 1, 1) := by decide +kernel
theorem dX13_feed_21 : decode cX13_feed 21 = .ok (.invokevirtual 254, 3) := by decide +kernel
theorem dX13_feed_24 : decode cX13_feed 24 = .ok (.aload_n 0, 1) := by decide +kernel
theorem dX13_feed_25 : decode cX13_feed 25 = .ok (.iload_n 2, 1) := by decide +kernel
theorem dX13_feed_26 : decode cX13_feed 26 = .ok (.invokevirtual 254, 3) := by decide +kernel
theorem dX13_feed_29 : decode cX13_feed 29 = .ok (.aload_n 0, 1) := by decide +kernel
theorem dX13_feed_30 : decode cX13_feed 30 = .ok (.iload_n 3, 1) := by decide +kernel
theorem dX13_feed_31 : decode cX13_feed 31 = .ok (.invokevirtual 254, 3) := by decide +kernel
theorem dX13_feed_34 : decode cX13_feed 34 = .ok (.aload_n 0, 1) := by decide +kernel
theorem dX13_feed_35 : decode cX13_feed 35 = .ok (.iload 4, 2) := by decide +kernel
theorem dX13_feed_37 : decode cX13_feed 37 = .ok (.invokevirtual 254, 3) := by decide +kernel
theorem dX13_feed_40 : decode cX13_feed 40 = .ok (.aload_n 0, 1) := by decide +kernel
theorem dX13_feed_41 : decode cX13_feed 41 = .ok (.iload 5, 2) := by decide +kernel
theorem dX13_feed_43 : decode cX13_feed 43 = .ok (.invokevirtual 254, 3) := by decide +kernel
theorem dX13_feed_46 : decode cX13_feed 46 = .ok (.aload_n 0, 1) := by decide +kernel
theorem dX13_feed_47 : decode cX13_feed 47 = .ok (.getfield 13, 3) := by decide +kernel
theorem dX13_feed_50 : decode cX13_feed 50 = .ok (.ireturn, 1) := by decide +kernel
theorem dX13_end_0 : decode cX13_end 0 = .ok (.iload_n 1, 1) := by decide +kernel
theorem dX13_end_1 : decode cX13_end 1 = .ok (.ifCond .lt 11, 3) := by decide +kernel
theorem dX13_end_4 : decode cX13_end 4 = .ok (.iload_n 1, 1) := by decide +kernel
theorem dX13_end_5 : decode cX13_end 5 = .ok (.aload_n 0, 1) := by decide +kernel
theorem dX13_end_6 : decode cX13_end 6 = .ok (.getfield 13, 3) := by decide +kernel
theorem dX13_end_9 : decode cX13_end 9 = .ok (.if_icmp .le 17, 3) := by decide +kernel
theorem dX13_end_12 : decode cX13_end 12 = .ok (.aload_n 0, 1) := by decide +kernel
theorem dX13_end_13 : decode cX13_end 13 = .ok (.iconst 0, 1) := by decide +kernel
theorem dX13_end_14 : decode cX13_end 14 = .ok (.invokevirtual 250, 3) := by decide +kernel
theorem dX13_end_17 : decode cX13_end 17 = .ok (.ifCond .lt 7, 3) := by decide +kernel
theorem dX13_end_20 : decode cX13_end 20 = .ok (.iconst 1, 1) := by decide +kernel
theorem dX13_end_21 : decode cX13_end 21 = .ok (.goto 4, 3) := by decide +kernel
theorem dX13_end_24 : decode cX13_end 24 = .ok (.iconst 0, 1) := by decide +kernel
theorem dX13_end_25 : decode cX13_end 25 = .ok (.ireturn, 1) := by decide +kernel
theorem dX13_end_26 : decode cX13_end 26 = .ok (.aload_n 0, 1) := by decide +kernel
theorem dX13_end_27 : decode cX13_end 27 = .ok (.iload_n 1, 1) := by decide +kernel
theorem dX13_end_28 : decode cX13_end 28 = .ok (.putfield 13, 3) := by decide +kernel
theorem dX13_end_31 : decode cX13_end 31 = .ok (.iconst 1, 1) := by decide +kernel
theorem dX13_end_32 : decode cX13_end 32 = .ok (.ireturn, 1) := by decide +kernel
theorem dX13_blame_0 : decode cX13_blame 0 = .ok (.aload_n 0, 1) := by decide +kernel
theorem dX13_blame_1 : decode cX13_blame 1 = .ok (.getfield 36, 3) := by decide +kernel
theorem dX13_blame_4 : decode cX13_blame 4 = .ok (.ifCond .le 4, 3) := by decide +kernel
theorem dX13_blame_7 : decode cX13_blame 7 = .ok (.return_, 1) := by decide +kernel
theorem dX13_blame_8 : decode cX13_blame 8 = .ok (.aload_n 0, 1) := by decide +kernel
theorem dX13_blame_9 : decode cX13_blame 9 = .ok (.iload_n 1, 1) := by decide +kernel
theorem dX13_blame_10 : decode cX13_blame 10 = .ok (.putfield 36, 3) := by decide +kernel
theorem dX13_blame_13 : decode cX13_blame 13 = .ok (.aload_n 0, 1) := by decide +kernel
theorem dX13_blame_14 : decode cX13_blame 14 = .ok (.iload_n 2, 1) := by decide +kernel
theorem dX13_blame_15 : decode cX13_blame 15 = .ok (.putfield 39, 3) := by decide +kernel
theorem dX13_blame_18 : decode cX13_blame 18 = .ok (.return_, 1) := by decide +kernel
theorem dX13_isLetter_0 : decode cX13_isLetter 0 = .ok (.iload_n 0, 1) := by decide +kernel
theorem dX13_isLetter_1 : decode cX13_isLetter 1 = .ok (.bipush 97, 2) := by decide +kernel
theorem dX13_isLetter_3 : decode cX13_isLetter 3 = .ok (.if_icmp .lt 13, 3) := by decide +kernel
theorem dX13_isLetter_6 : decode cX13_isLetter 6 = .ok (.iload_n 0, 1) := by decide +kernel
theorem dX13_isLetter_7 : decode cX13_isLetter 7 = .ok (.bipush 122, 2) := by decide +kernel
theorem dX13_isLetter_9 : decode cX13_isLetter 9 = .ok (.if_icmp .gt 7, 3) := by decide +kernel
theorem dX13_isLetter_12 : decode cX13_isLetter 12 = .ok (.iconst 1, 1) := by decide +kernel
theorem dX13_isLetter_13 : decode cX13_isLetter 13 = .ok (.goto 4, 3) := by decide +kernel
theorem dX13_isLetter_16 : decode cX13_isLetter 16 = .ok (.iconst 0, 1) := by decide +kernel
theorem dX13_isLetter_17 : decode cX13_isLetter 17 = .ok (.ireturn, 1) := by decide +kernel
theorem dX13_isDigit_0 : decode cX13_isDigit 0 = .ok (.iload_n 0, 1) := by decide +kernel
theorem dX13_isDigit_1 : decode cX13_isDigit 1 = .ok (.bipush 48, 2) := by decide +kernel
theorem dX13_isDigit_3 : decode cX13_isDigit 3 = .ok (.if_icmp .lt 13, 3) := by decide +kernel
theorem dX13_isDigit_6 : decode cX13_isDigit 6 = .ok (.iload_n 0, 1) := by decide +kernel
theorem dX13_isDigit_7 : decode cX13_isDigit 7 = .ok (.bipush 57, 2) := by decide +kernel
theorem dX13_isDigit_9 : decode cX13_isDigit 9 = .ok (.if_icmp .gt 7, 3) := by decide +kernel
theorem dX13_isDigit_12 : decode cX13_isDigit 12 = .ok (.iconst 1, 1) := by decide +kernel
theorem dX13_isDigit_13 : decode cX13_isDigit 13 = .ok (.goto 4, 3) := by decide +kernel
theorem dX13_isDigit_16 : decode cX13_isDigit 16 = .ok (.iconst 0, 1) := by decide +kernel
theorem dX13_isDigit_17 : decode cX13_isDigit 17 = .ok (.ireturn, 1) := by decide +kernel
theorem dX13_lex_0 : decode cX13_lex 0 = .ok (.aload_n 0, 1) := by decide +kernel
theorem dX13_lex_1 : decode cX13_lex 1 = .ok (.getfield 48, 3) := by decide +kernel
theorem dX13_lex_4 : decode cX13_lex 4 = .ok (.iconst (-1), 1) := by decide +kernel
theorem dX13_lex_5 : decode cX13_lex 5 = .ok (.if_icmp .eq 12, 3) := by decide +kernel
theorem dX13_lex_8 : decode cX13_lex 8 = .ok (.aload_n 0, 1) := by decide +kernel
theorem dX13_lex_9 : decode cX13_lex 9 = .ok (.iconst 1, 1) := by decide +kernel
theorem dX13_lex_10 : decode cX13_lex 10 = .ok (.aload_n 0, 1) := by decide +kernel
theorem dX13_lex_11 : decode cX13_lex 11 = .ok (.getfield 48, 3) := by decide +kernel
theorem dX13_lex_14 : decode cX13_lex 14 = .ok (.invokevirtual 257, 3) := by decide +kernel
theorem dX13_lex_17 : decode cX13_lex 17 = .ok (.return_, 1) := by decide +kernel
theorem dX13_ahead_0 : decode cX13_ahead 0 = .ok (.aload_n 0, 1) := by decide +kernel
theorem dX13_ahead_1 : decode cX13_ahead 1 = .ok (.getfield 26, 3) := by decide +kernel
theorem dX13_ahead_4 : decode cX13_ahead 4 = .ok (.istore_n 1, 1) := by decide +kernel
theorem dX13_ahead_5 : decode cX13_ahead 5 = .ok (.iload_n 1, 1) := by decide +kernel
theorem dX13_ahead_6 : decode cX13_ahead 6 = .ok (.aload_n 0, 1) := by decide +kernel
theorem dX13_ahead_7 : decode cX13_ahead 7 = .ok (.getfield 17, 3) := by decide +kernel
theorem dX13_ahead_10 : decode cX13_ahead 10 = .ok (.if_icmp .ge 31, 3) := by decide +kernel
theorem dX13_ahead_13 : decode cX13_ahead 13 = .ok (.aload_n 0, 1) := by decide +kernel
theorem dX13_ahead_14 : decode cX13_ahead 14 = .ok (.getfield 7, 3) := by decide +kernel
theorem dX13_ahead_17 : decode cX13_ahead 17 = .ok (.iload_n 1, 1) := by decide +kernel
theorem dX13_ahead_18 : decode cX13_ahead 18 = .ok (.iaload, 1) := by decide +kernel
theorem dX13_ahead_19 : decode cX13_ahead 19 = .ok (.bipush 32, 2) := by decide +kernel
theorem dX13_ahead_21 : decode cX13_ahead 21 = .ok (.if_icmp .eq 14, 3) := by decide +kernel
theorem dX13_ahead_24 : decode cX13_ahead 24 = .ok (.aload_n 0, 1) := by decide +kernel
theorem dX13_ahead_25 : decode cX13_ahead 25 = .ok (.getfield 7, 3) := by decide +kernel
theorem dX13_ahead_28 : decode cX13_ahead 28 = .ok (.iload_n 1, 1) := by decide +kernel
theorem dX13_ahead_29 : decode cX13_ahead 29 = .ok (.iaload, 1) := by decide +kernel
theorem dX13_ahead_30 : decode cX13_ahead 30 = .ok (.bipush 10, 2) := by decide +kernel
theorem dX13_ahead_32 : decode cX13_ahead 32 = .ok (.if_icmp .ne 9, 3) := by decide +kernel
theorem dX13_ahead_35 : decode cX13_ahead 35 = .ok (.iinc 1 1, 3) := by decide +kernel
theorem dX13_ahead_38 : decode cX13_ahead 38 = .ok (.goto (-33), 3) := by decide +kernel
theorem dX13_ahead_41 : decode cX13_ahead 41 = .ok (.aload_n 0, 1) := by decide +kernel
theorem dX13_ahead_42 : decode cX13_ahead 42 = .ok (.iload_n 1, 1) := by decide +kernel
theorem dX13_ahead_43 : decode cX13_ahead 43 = .ok (.putfield 23, 3) := by decide +kernel
theorem dX13_ahead_46 : decode cX13_ahead 46 = .ok (.aload_n 0, 1) := by decide +kernel
theorem dX13_ahead_47 : decode cX13_ahead 47 = .ok (.iload_n 1, 1) := by decide +kernel
theorem dX13_ahead_48 : decode cX13_ahead 48 = .ok (.putfield 26, 3) := by decide +kernel
theorem dX13_ahead_51 : decode cX13_ahead 51 = .ok (.aload_n 0, 1) := by decide +kernel
theorem dX13_ahead_52 : decode cX13_ahead 52 = .ok (.iconst 0, 1) := by decide +kernel
theorem dX13_ahead_53 : decode cX13_ahead 53 = .ok (.putfield 20, 3) := by decide +kernel
theorem dX13_ahead_56 : decode cX13_ahead 56 = .ok (.aload_n 0, 1) := by decide +kernel
theorem dX13_ahead_57 : decode cX13_ahead 57 = .ok (.iconst (-1), 1) := by decide +kernel
theorem dX13_ahead_58 : decode cX13_ahead 58 = .ok (.putfield 48, 3) := by decide +kernel
theorem dX13_ahead_61 : decode cX13_ahead 61 = .ok (.iload_n 1, 1) := by decide +kernel
theorem dX13_ahead_62 : decode cX13_ahead 62 = .ok (.aload_n 0, 1) := by decide +kernel
theorem dX13_ahead_63 : decode cX13_ahead 63 = .ok (.getfield 17, 3) := by decide +kernel
theorem dX13_ahead_66 : decode cX13_ahead 66 = .ok (.if_icmp .lt 4, 3) := by decide +kernel
theorem dX13_ahead_69 : decode cX13_ahead 69 = .ok (.return_, 1) := by decide +kernel
theorem dX13_ahead_70 : decode cX13_ahead 70 = .ok (.aload_n 0, 1) := by decide +kernel
theorem dX13_ahead_71 : decode cX13_ahead 71 = .ok (.getfield 7, 3) := by decide +kernel
theorem dX13_ahead_74 : decode cX13_ahead 74 = .ok (.iload_n 1, 1) := by decide +kernel
theorem dX13_ahead_75 : decode cX13_ahead 75 = .ok (.iaload, 1) := by decide +kernel
theorem dX13_ahead_76 : decode cX13_ahead 76 = .ok (.invokestatic 261, 3) := by decide +kernel
theorem dX13_ahead_79 : decode cX13_ahead 79 = .ok (.istore_n 2, 1) := by decide +kernel
theorem dX13_ahead_80 : decode cX13_ahead 80 = .ok (.aload_n 0, 1) := by decide +kernel
theorem dX13_ahead_81 : decode cX13_ahead 81 = .ok (.getfield 7, 3) := by decide +kernel
theorem dX13_ahead_84 : decode cX13_ahead 84 = .ok (.iload_n 1, 1) := by decide +kernel
theorem dX13_ahead_85 : decode cX13_ahead 85 = .ok (.iaload, 1) := by decide +kernel
theorem dX13_ahead_86 : decode cX13_ahead 86 = .ok (.invokestatic 265, 3) := by decide +kernel
theorem dX13_ahead_89 : decode cX13_ahead 89 = .ok (.istore_n 3, 1) := by decide +kernel
theorem dX13_ahead_90 : decode cX13_ahead 90 = .ok (.iload_n 2, 1) := by decide +kernel
theorem dX13_ahead_91 : decode cX13_ahead 91 = .ok (.ifCond .ne 7, 3) := by decide +kernel
theorem dX13_ahead_94 : decode cX13_ahead 94 = .ok (.iload_n 3, 1) := by decide +kernel
theorem dX13_ahead_95 : decode cX13_ahead 95 = .ok (.ifCond .eq 40, 3) := by decide +kernel
theorem dX13_ahead_98 : decode cX13_ahead 98 = .ok (.iload_n 1, 1) := by decide +kernel
theorem dX13_ahead_99 : decode cX13_ahead 99 = .ok (.ifCond .le 36, 3) := by decide +kernel
theorem dX13_ahead_102 : decode cX13_ahead 102 = .ok (.aload_n 0, 1) := by decide +kernel
theorem dX13_ahead_103 : decode cX13_ahead 103 = .ok (.getfield 7, 3) := by decide +kernel
theorem dX13_ahead_106 : decode cX13_ahead 106 = .ok (.iload_n 1, 1) := by decide +kernel
theorem dX13_ahead_107 : decode cX13_ahead 107 = .ok (.iconst 1, 1) := by decide +kernel
theorem dX13_ahead_108 : decode cX13_ahead 108 = .ok (.isub, 1) := by decide +kernel
theorem dX13_ahead_109 : decode cX13_ahead 109 = .ok (.iaload, 1) := by decide +kernel
theorem dX13_ahead_110 : decode cX13_ahead 110 = .ok (.invokestatic 261, 3) := by decide +kernel
theorem dX13_ahead_113 : decode cX13_ahead 113 = .ok (.ifCond .ne 17, 3) := by decide +kernel
theorem dX13_ahead_116 : decode cX13_ahead 116 = .ok (.aload_n 0, 1) := by decide +kernel
theorem dX13_ahead_117 : decode cX13_ahead 117 = .ok (.getfield 7, 3) := by decide +kernel
theorem dX13_ahead_120 : decode cX13_ahead 120 = .ok (.iload_n 1, 1) := by decide +kernel
theorem dX13_ahead_121 : decode cX13_ahead 121 = .ok (.iconst 1, 1) := by decide +kernel
theorem dX13_ahead_122 : decode cX13_ahead 122 = .ok (.isub, 1) := by decide +kernel
theorem dX13_ahead_123 : decode cX13_ahead 123 = .ok (.iaload, 1) := by decide +kernel
theorem dX13_ahead_124 : decode cX13_ahead 124 = .ok (.invokestatic 265, 3) := by decide +kernel
theorem dX13_ahead_127 : decode cX13_ahead 127 = .ok (.ifCond .eq 8, 3) := by decide +kernel
theorem dX13_ahead_130 : decode cX13_ahead 130 = .ok (.aload_n 0, 1) := by decide +kernel
theorem dX13_ahead_131 : decode cX13_ahead 131 = .ok (.iload_n 1, 1) := by decide +kernel
theorem dX13_ahead_132 : decode cX13_ahead 132 = .ok (.putfield 48, 3) := by decide +kernel
theorem dX13_ahead_135 : decode cX13_ahead 135 = .ok (.aload_n 0, 1) := by decide +kernel
theorem dX13_ahead_136 : decode cX13_ahead 136 = .ok (.iconst 0, 1) := by decide +kernel
theorem dX13_ahead_137 : decode cX13_ahead 137 = .ok (.putfield 29, 3) := by decide +kernel
theorem dX13_ahead_140 : decode cX13_ahead 140 = .ok (.aload_n 0, 1) := by decide +kernel
theorem dX13_ahead_141 : decode cX13_ahead 141 = .ok (.lconst 0, 1) := by decide +kernel
theorem dX13_ahead_142 : decode cX13_ahead 142 = .ok (.putfield 32, 3) := by decide +kernel
theorem dX13_ahead_145 : decode cX13_ahead 145 = .ok (.aload_n 0, 1) := by decide +kernel
theorem dX13_ahead_146 : decode cX13_ahead 146 = .ok (.iconst 3, 1) := by decide +kernel
theorem dX13_ahead_147 : decode cX13_ahead 147 = .ok (.putfield 20, 3) := by decide +kernel
theorem dX13_ahead_150 : decode cX13_ahead 150 = .ok (.aload_n 0, 1) := by decide +kernel
theorem dX13_ahead_151 : decode cX13_ahead 151 = .ok (.iload_n 1, 1) := by decide +kernel
theorem dX13_ahead_152 : decode cX13_ahead 152 = .ok (.iconst 1, 1) := by decide +kernel
theorem dX13_ahead_153 : decode cX13_ahead 153 = .ok (.iadd, 1) := by decide +kernel
theorem dX13_ahead_154 : decode cX13_ahead 154 = .ok (.putfield 26, 3) := by decide +kernel
theorem dX13_ahead_157 : decode cX13_ahead 157 = .ok (.iload_n 2, 1) := by decide +kernel
theorem dX13_ahead_158 : decode cX13_ahead 158 = .ok (.ifCond .ne 18, 3) := by decide +kernel
theorem dX13_ahead_161 : decode cX13_ahead 161 = .ok (.iload_n 3, 1) := by decide +kernel
theorem dX13_ahead_162 : decode cX13_ahead 162 = .ok (.ifCond .ne 14, 3) := by decide +kernel
theorem dX13_ahead_165 : decode cX13_ahead 165 = .ok (.aload_n 0, 1) := by decide +kernel
theorem dX13_ahead_166 : decode cX13_ahead 166 = .ok (.aload_n 0, 1) := by decide +kernel
theorem dX13_ahead_167 : decode cX13_ahead 167 = .ok (.getfield 7, 3) := by decide +kernel
theorem dX13_ahead_170 : decode cX13_ahead 170 = .ok (.iload_n 1, 1) := by decide +kernel
theorem dX13_ahead_171 : decode cX13_ahead 171 = .ok (.iaload, 1) := by decide +kernel
theorem dX13_ahead_172 : decode cX13_ahead 172 = .ok (.putfield 29, 3) := by decide +kernel
theorem dX13_ahead_175 : decode cX13_ahead 175 = .ok (.return_, 1) := by decide +kernel
theorem dX13_ahead_176 : decode cX13_ahead 176 = .ok (.aload_n 0, 1) := by decide +kernel
theorem dX13_ahead_177 : decode cX13_ahead 177 = .ok (.iload_n 2, 1) := by decide +kernel
theorem dX13_ahead_178 : decode cX13_ahead 178 = .ok (.ifCond .eq 7, 3) := by decide +kernel
theorem dX13_ahead_181 : decode cX13_ahead 181 = .ok (.iconst 1, 1) := by decide +kernel
theorem dX13_ahead_182 : decode cX13_ahead 182 = .ok (.goto 4, 3) := by decide +kernel
theorem dX13_ahead_185 : decode cX13_ahead 185 = .ok (.iconst 2, 1) := by decide +kernel
theorem dX13_ahead_186 : decode cX13_ahead 186 = .ok (.putfield 20, 3) := by decide +kernel
theorem dX13_ahead_189 : decode cX13_ahead 189 = .ok (.iload_n 2, 1) := by decide +kernel
theorem dX13_ahead_190 : decode cX13_ahead 190 = .ok (.ifCond .eq 8, 3) := by decide +kernel
theorem dX13_ahead_193 : decode cX13_ahead 193 = .ok (.bipush 6, 2) := by decide +kernel
theorem dX13_ahead_195 : decode cX13_ahead 195 = .ok (.goto 4, 3) := by decide +kernel
theorem dX13_ahead_198 : decode cX13_ahead 198 = .ok (.iconst 4, 1) := by decide +kernel
theorem dX13_ahead_199 : decode cX13_ahead 199 = .ok (.istore 4, 2) := by decide +kernel
theorem dX13_ahead_201 : decode cX13_ahead 201 = .ok (.iconst 0, 1) := by decide +kernel
theorem dX13_ahead_202 : decode cX13_ahead 202 = .ok (.istore 5, 2) := by decide +kernel
theorem dX13_ahead_204 : decode cX13_ahead 204 = .ok (.iload_n 1, 1) := by decide +kernel
theorem dX13_ahead_205 : decode cX13_ahead 205 = .ok (.aload_n 0, 1) := by decide +kernel
theorem dX13_ahead_206 : decode cX13_ahead 206 = .ok (.getfield 17, 3) := by decide +kernel
theorem dX13_ahead_209 : decode cX13_ahead 209 = .ok (.if_icmp .ge 125, 3) := by decide +kernel
theorem dX13_ahead_212 : decode cX13_ahead 212 = .ok (.iload_n 2, 1) := by decide +kernel
theorem dX13_ahead_213 : decode cX13_ahead 213 = .ok (.ifCond .eq 18, 3) := by decide +kernel
theorem dX13_ahead_216 : decode cX13_ahead 216 = .ok (.aload_n 0, 1) := by decide +kernel
theorem dX13_ahead_217 : decode cX13_ahead 217 = .ok (.getfield 7, 3) := by decide +kernel
theorem dX13_ahead_220 : decode cX13_ahead 220 = .ok (.iload_n 1, 1) := by decide +kernel
theorem dX13_ahead_221 : decode cX13_ahead 221 = .ok (.iaload, 1) := by decide +kernel
theorem dX13_ahead_222 : decode cX13_ahead 222 = .ok (.invokestatic 261, 3) := by decide +kernel
theorem dX13_ahead_225 : decode cX13_ahead 225 = .ok (.ifCond .eq 109, 3) := by decide +kernel
theorem dX13_ahead_228 : decode cX13_ahead 228 = .ok (.goto 15, 3) := by decide +kernel
theorem dX13_ahead_231 : decode cX13_ahead 231 = .ok (.aload_n 0, 1) := by decide +kernel
theorem dX13_ahead_232 : decode cX13_ahead 232 = .ok (.getfield 7, 3) := by decide +kernel
theorem dX13_ahead_235 : decode cX13_ahead 235 = .ok (.iload_n 1, 1) := by decide +kernel
theorem dX13_ahead_236 : decode cX13_ahead 236 = .ok (.iaload, 1) := by decide +kernel
theorem dX13_ahead_237 : decode cX13_ahead 237 = .ok (.invokestatic 265, 3) := by decide +kernel
theorem dX13_ahead_240 : decode cX13_ahead 240 = .ok (.ifCond .eq 94, 3) := by decide +kernel
theorem dX13_ahead_243 : decode cX13_ahead 243 = .ok (.iload 5, 2) := by decide +kernel
theorem dX13_ahead_245 : decode cX13_ahead 245 = .ok (.iload 4, 2) := by decide +kernel
theorem dX13_ahead_247 : decode cX13_ahead 247 = .ok (.if_icmp .ne 16, 3) := by decide +kernel
theorem dX13_ahead_250 : decode cX13_ahead 250 = .ok (.aload_n 0, 1) := by decide +kernel
theorem dX13_ahead_251 : decode cX13_ahead 251 = .ok (.getfield 48, 3) := by decide +kernel
theorem dX13_ahead_254 : decode cX13_ahead 254 = .ok (.iconst (-1), 1) := by decide +kernel
theorem dX13_ahead_255 : decode cX13_ahead 255 = .ok (.if_icmp .ne 8, 3) := by decide +kernel
theorem dX13_ahead_258 : decode cX13_ahead 258 = .ok (.aload_n 0, 1) := by decide +kernel
theorem dX13_ahead_259 : decode cX13_ahead 259 = .ok (.iload_n 1, 1) := by decide +kernel
theorem dX13_ahead_260 : decode cX13_ahead 260 = .ok (.putfield 48, 3) := by decide +kernel
theorem dX13_ahead_263 : decode cX13_ahead 263 = .ok (.iload 5, 2) := by decide +kernel
theorem dX13_ahead_265 : decode cX13_ahead 265 = .ok (.iload 4, 2) := by decide +kernel
theorem dX13_ahead_267 : decode cX13_ahead 267 = .ok (.if_icmp .ge 26, 3) := by decide +kernel
theorem dX13_ahead_270 : decode cX13_ahead 270 = .ok (.iload_n 2, 1) := by decide +kernel
theorem dX13_ahead_271 : decode cX13_ahead 271 = .ok (.ifCond .eq 22, 3) := by decide +kernel
theorem dX13_ahead_274 : decode cX13_ahead 274 = .ok (.aload_n 0, 1) := by decide +kernel
theorem dX13_ahead_275 : decode cX13_ahead 275 = .ok (.aload_n 0, 1) := by decide +kernel
theorem dX13_ahead_276 : decode cX13_ahead 276 = .ok (.getfield 32, 3) := by decide +kernel
theorem dX13_ahead_279 : decode cX13_ahead 279 = .ok (.bipush 8, 2) := by decide +kernel
theorem dX13_ahead_281 : decode cX13_ahead 281 = .ok (.lshl, 1) := by decide +kernel
theorem dX13_ahead_282 : decode cX13_ahead 282 = .ok (.aload_n 0, 1) := by decide +kernel
theorem dX13_ahead_283 : decode cX13_ahead 283 = .ok (.getfield 7, 3) := by decide +kernel
theorem dX13_ahead_286 : decode cX13_ahead 286 = .ok (.iload_n 1, 1) := by decide +kernel
theorem dX13_ahead_287 : decode cX13_ahead 287 = .ok (.iaload, 1) := by decide +kernel
theorem dX13_ahead_288 : decode cX13_ahead 288 = .ok (.i2l, 1) := by decide +kernel
theorem dX13_ahead_289 : decode cX13_ahead 289 = .ok (.lor, 1) := by decide +kernel
theorem dX13_ahead_290 : decode cX13_ahead 290 = .ok (.putfield 32, 3) := by decide +kernel
theorem dX13_ahead_293 : decode cX13_ahead 293 = .ok (.iload 5, 2) := by decide +kernel
theorem dX13_ahead_295 : decode cX13_ahead 295 = .ok (.iload 4, 2) := by decide +kernel
theorem dX13_ahead_297 : decode cX13_ahead 297 = .ok (.if_icmp .ge 28, 3) := by decide +kernel
theorem dX13_ahead_300 : decode cX13_ahead 300 = .ok (.iload_n 3, 1) := by decide +kernel
theorem dX13_ahead_301 : decode cX13_ahead 301 = .ok (.ifCond .eq 24, 3) := by decide +kernel
theorem dX13_ahead_304 : decode cX13_ahead 304 = .ok (.aload_n 0, 1) := by decide +kernel
theorem dX13_ahead_305 : decode cX13_ahead 305 = .ok (.bipush 10, 2) := by decide +kernel
theorem dX13_ahead_307 : decode cX13_ahead 307 = .ok (.aload_n 0, 1) := by decide +kernel
theorem dX13_ahead_308 : decode cX13_ahead 308 = .ok (.getfield 29, 3) := by decide +kernel
theorem dX13_ahead_311 : decode cX13_ahead 311 = .ok (.imul, 1) := by decide +kernel
theorem dX13_ahead_312 : decode cX13_ahead 312 = .ok (.aload_n 0, 1) := by decide +kernel
theorem dX13_ahead_313 : decode cX13_ahead 313 = .ok (.getfield 7, 3) := by decide +kernel
theorem dX13_ahead_316 : decode cX13_ahead 316 = .ok (.iload_n 1, 1) := by decide +kernel
theorem dX13_ahead_317 : decode cX13_ahead 317 = .ok (.iaload, 1) := by decide +kernel
theorem dX13_ahead_318 : decode cX13_ahead 318 = .ok (.iadd, 1) := by decide +kernel
theorem dX13_ahead_319 : decode cX13_ahead 319 = .ok (.bipush 48, 2) := by decide +kernel
theorem dX13_ahead_321 : decode cX13_ahead 321 = .ok (.isub, 1) := by decide +kernel
theorem dX13_ahead_322 : decode cX13_ahead 322 = .ok (.putfield 29, 3) := by decide +kernel
theorem dX13_ahead_325 : decode cX13_ahead 325 = .ok (.iinc 5 1, 3) := by decide +kernel
theorem dX13_ahead_328 : decode cX13_ahead 328 = .ok (.iinc 1 1, 3) := by decide +kernel
theorem dX13_ahead_331 : decode cX13_ahead 331 = .ok (.goto (-127), 3) := by decide +kernel
theorem dX13_ahead_334 : decode cX13_ahead 334 = .ok (.aload_n 0, 1) := by decide +kernel
theorem dX13_ahead_335 : decode cX13_ahead 335 = .ok (.iload_n 1, 1) := by decide +kernel
theorem dX13_ahead_336 : decode cX13_ahead 336 = .ok (.putfield 26, 3) := by decide +kernel
theorem dX13_ahead_339 : decode cX13_ahead 339 = .ok (.return_, 1) := by decide +kernel
theorem dX13_isSign_0 : decode cX13_isSign 0 = .ok (.aload_n 0, 1) := by decide +kernel
theorem dX13_isSign_1 : decode cX13_isSign 1 = .ok (.getfield 20, 3) := by decide +kernel
theorem dX13_isSign_4 : decode cX13_isSign 4 = .ok (.iconst 3, 1) := by decide +kernel
theorem dX13_isSign_5 : decode cX13_isSign 5 = .ok (.if_icmp .ne 15, 3) := by decide +kernel
theorem dX13_isSign_8 : decode cX13_isSign 8 = .ok (.aload_n 0, 1) := by decide +kernel
theorem dX13_isSign_9 : decode cX13_isSign 9 = .ok (.getfield 29, 3) := by decide +kernel
theorem dX13_isSign_12 : decode cX13_isSign 12 = .ok (.iload_n 1, 1) := by decide +kernel
theorem dX13_isSign_13 : decode cX13_isSign 13 = .ok (.if_icmp .ne 7, 3) := by decide +kernel
theorem dX13_isSign_16 : decode cX13_isSign 16 = .ok (.iconst 1, 1) := by decide +kernel
theorem dX13_isSign_17 : decode cX13_isSign 17 = .ok (.goto 4, 3) := by decide +kernel
theorem dX13_isSign_20 : decode cX13_isSign 20 = .ok (.iconst 0, 1) := by decide +kernel
theorem dX13_isSign_21 : decode cX13_isSign 21 = .ok (.ireturn, 1) := by decide +kernel
theorem dX13_isWord_0 : decode cX13_isWord 0 = .ok (.aload_n 0, 1) := by decide +kernel
theorem dX13_isWord_1 : decode cX13_isWord 1 = .ok (.getfield 20, 3) := by decide +kernel
theorem dX13_isWord_4 : decode cX13_isWord 4 = .ok (.iconst 1, 1) := by decide +kernel
theorem dX13_isWord_5 : decode cX13_isWord 5 = .ok (.if_icmp .ne 16, 3) := by decide +kernel
theorem dX13_isWord_8 : decode cX13_isWord 8 = .ok (.aload_n 0, 1) := by decide +kernel
theorem dX13_isWord_9 : decode cX13_isWord 9 = .ok (.getfield 32, 3) := by decide +kernel
theorem dX13_isWord_12 : decode cX13_isWord 12 = .ok (.lload_n 1, 1) := by decide +kernel
theorem dX13_isWord_13 : decode cX13_isWord 13 = .ok (.lcmp, 1) := by decide +kernel
theorem dX13_isWord_14 : decode cX13_isWord 14 = .ok (.ifCond .ne 7, 3) := by decide +kernel
theorem dX13_isWord_17 : decode cX13_isWord 17 = .ok (.iconst 1, 1) := by decide +kernel
theorem dX13_isWord_18 : decode cX13_isWord 18 = .ok (.goto 4, 3) := by decide +kernel
theorem dX13_isWord_21 : decode cX13_isWord 21 = .ok (.iconst 0, 1) := by decide +kernel
theorem dX13_isWord_22 : decode cX13_isWord 22 = .ok (.ireturn, 1) := by decide +kernel
theorem dX13_must_0 : decode cX13_must 0 = .ok (.aload_n 0, 1) := by decide +kernel
theorem dX13_must_1 : decode cX13_must 1 = .ok (.invokevirtual 268, 3) := by decide +kernel
theorem dX13_must_4 : decode cX13_must 4 = .ok (.aload_n 0, 1) := by decide +kernel
theorem dX13_must_5 : decode cX13_must 5 = .ok (.iload_n 1, 1) := by decide +kernel
theorem dX13_must_6 : decode cX13_must 6 = .ok (.invokevirtual 271, 3) := by decide +kernel
theorem dX13_must_9 : decode cX13_must 9 = .ok (.ifCond .ne 12, 3) := by decide +kernel
theorem dX13_must_12 : decode cX13_must 12 = .ok (.aload_n 0, 1) := by decide +kernel
theorem dX13_must_13 : decode cX13_must 13 = .ok (.iconst 1, 1) := by decide +kernel
theorem dX13_must_14 : decode cX13_must 14 = .ok (.aload_n 0, 1) := by decide +kernel
theorem dX13_must_15 : decode cX13_must 15 = .ok (.getfield 23, 3) := by decide +kernel
theorem dX13_must_18 : decode cX13_must 18 = .ok (.invokevirtual 257, 3) := by decide +kernel
theorem dX13_must_21 : decode cX13_must 21 = .ok (.aload_n 0, 1) := by decide +kernel
theorem dX13_must_22 : decode cX13_must 22 = .ok (.getfield 36, 3) := by decide +kernel
theorem dX13_must_25 : decode cX13_must 25 = .ok (.ifCond .ne 7, 3) := by decide +kernel
theorem dX13_must_28 : decode cX13_must 28 = .ok (.aload_n 0, 1) := by decide +kernel
theorem dX13_must_29 : decode cX13_must 29 = .ok (.invokevirtual 274, 3) := by decide +kernel
theorem dX13_must_32 : decode cX13_must 32 = .ok (.return_, 1) := by decide +kernel
theorem dX13_isOwn_0 : decode cX13_isOwn 0 = .ok (.lload_n 1, 1) := by decide +kernel
theorem dX13_isOwn_1 : decode cX13_isOwn 1 = .ok (.ldc2_w 277, 3) := by decide +kernel
theorem dX13_isOwn_4 : decode cX13_isOwn 4 = .ok (.lcmp, 1) := by decide +kernel
theorem dX13_isOwn_5 : decode cX13_isOwn 5 = .ok (.ifCond .eq 35, 3) := by decide +kernel
theorem dX13_isOwn_8 : decode cX13_isOwn 8 = .ok (.lload_n 1, 1) := by decide +kernel
theorem dX13_isOwn_9 : decode cX13_isOwn 9 = .ok (.ldc2_w 279, 3) := by decide +kernel
theorem dX13_isOwn_12 : decode cX13_isOwn 12 = .ok (.lcmp, 1) := by decide +kernel
theorem dX13_isOwn_13 : decode cX13_isOwn 13 = .ok (.ifCond .eq 27, 3) := by decide +kernel
theorem dX13_isOwn_16 : decode cX13_isOwn 16 = .ok (.lload_n 1, 1) := by decide +kernel
theorem dX13_isOwn_17 : decode cX13_isOwn 17 = .ok (.ldc2_w 281, 3) := by decide +kernel
theorem dX13_isOwn_20 : decode cX13_isOwn 20 = .ok (.lcmp, 1) := by decide +kernel
theorem dX13_isOwn_21 : decode cX13_isOwn 21 = .ok (.ifCond .eq 19, 3) := by decide +kernel
theorem dX13_isOwn_24 : decode cX13_isOwn 24 = .ok (.lload_n 1, 1) := by decide +kernel
theorem dX13_isOwn_25 : decode cX13_isOwn 25 = .ok (.ldc2_w 283, 3) := by decide +kernel
theorem dX13_isOwn_28 : decode cX13_isOwn 28 = .ok (.lcmp, 1) := by decide +kernel
theorem dX13_isOwn_29 : decode cX13_isOwn 29 = .ok (.ifCond .eq 11, 3) := by decide +kernel
theorem dX13_isOwn_32 : decode cX13_isOwn 32 = .ok (.lload_n 1, 1) := by decide +kernel
theorem dX13_isOwn_33 : decode cX13_isOwn 33 = .ok (.ldc2_w 285, 3) := by decide +kernel
theorem dX13_isOwn_36 : decode cX13_isOwn 36 = .ok (.lcmp, 1) := by decide +kernel
theorem dX13_isOwn_37 : decode cX13_isOwn 37 = .ok (.ifCond .ne 5, 3) := by decide +kernel
theorem dX13_isOwn_40 : decode cX13_isOwn 40 = .ok (.iconst 1, 1) := by decide +kernel
theorem dX13_isOwn_41 : decode cX13_isOwn 41 = .ok (.ireturn, 1) := by decide +kernel
theorem dX13_isOwn_42 : decode cX13_isOwn 42 = .ok (.lload_n 1, 1) := by decide +kernel
theorem dX13_isOwn_43 : decode cX13_isOwn 43 = .ok (.ldc2_w 287, 3) := by decide +kernel
theorem dX13_isOwn_46 : decode cX13_isOwn 46 = .ok (.lcmp, 1) := by decide +kernel
theorem dX13_isOwn_47 : decode cX13_isOwn 47 = .ok (.ifCond .eq 35, 3) := by decide +kernel
theorem dX13_isOwn_50 : decode cX13_isOwn 50 = .ok (.lload_n 1, 1) := by decide +kernel
theorem dX13_isOwn_51 : decode cX13_isOwn 51 = .ok (.ldc2_w 289, 3) := by decide +kernel
theorem dX13_isOwn_54 : decode cX13_isOwn 54 = .ok (.lcmp, 1) := by decide +kernel
theorem dX13_isOwn_55 : decode cX13_isOwn 55 = .ok (.ifCond .eq 27, 3) := by decide +kernel
theorem dX13_isOwn_58 : decode cX13_isOwn 58 = .ok (.lload_n 1, 1) := by decide +kernel
theorem dX13_isOwn_59 : decode cX13_isOwn 59 = .ok (.ldc2_w 291, 3) := by decide +kernel
theorem dX13_isOwn_62 : decode cX13_isOwn 62 = .ok (.lcmp, 1) := by decide +kernel
theorem dX13_isOwn_63 : decode cX13_isOwn 63 = .ok (.ifCond .eq 19, 3) := by decide +kernel
theorem dX13_isOwn_66 : decode cX13_isOwn 66 = .ok (.lload_n 1, 1) := by decide +kernel
theorem dX13_isOwn_67 : decode cX13_isOwn 67 = .ok (.ldc2_w 293, 3) := by decide +kernel
theorem dX13_isOwn_70 : decode cX13_isOwn 70 = .ok (.lcmp, 1) := by decide +kernel
theorem dX13_isOwn_71 : decode cX13_isOwn 71 = .ok (.ifCond .eq 11, 3) := by decide +kernel
theorem dX13_isOwn_74 : decode cX13_isOwn 74 = .ok (.lload_n 1, 1) := by decide +kernel
theorem dX13_isOwn_75 : decode cX13_isOwn 75 = .ok (.ldc2_w 295, 3) := by decide +kernel
theorem dX13_isOwn_78 : decode cX13_isOwn 78 = .ok (.lcmp, 1) := by decide +kernel
theorem dX13_isOwn_79 : decode cX13_isOwn 79 = .ok (.ifCond .ne 5, 3) := by decide +kernel
theorem dX13_isOwn_82 : decode cX13_isOwn 82 = .ok (.iconst 1, 1) := by decide +kernel
theorem dX13_isOwn_83 : decode cX13_isOwn 83 = .ok (.ireturn, 1) := by decide +kernel
theorem dX13_isOwn_84 : decode cX13_isOwn 84 = .ok (.lload_n 1, 1) := by decide +kernel
theorem dX13_isOwn_85 : decode cX13_isOwn 85 = .ok (.ldc2_w 297, 3) := by decide +kernel
theorem dX13_isOwn_88 : decode cX13_isOwn 88 = .ok (.lcmp, 1) := by decide +kernel
theorem dX13_isOwn_89 : decode cX13_isOwn 89 = .ok (.ifCond .eq 35, 3) := by decide +kernel
theorem dX13_isOwn_92 : decode cX13_isOwn 92 = .ok (.lload_n 1, 1) := by decide +kernel
theorem dX13_isOwn_93 : decode cX13_isOwn 93 = .ok (.ldc2_w 299, 3) := by decide +kernel
theorem dX13_isOwn_96 : decode cX13_isOwn 96 = .ok (.lcmp, 1) := by decide +kernel
theorem dX13_isOwn_97 : decode cX13_isOwn 97 = .ok (.ifCond .eq 27, 3) := by decide +kernel
theorem dX13_isOwn_100 : decode cX13_isOwn 100 = .ok (.lload_n 1, 1) := by decide +kernel
theorem dX13_isOwn_101 : decode cX13_isOwn 101 = .ok (.ldc2_w 301, 3) := by decide +kernel
theorem dX13_isOwn_104 : decode cX13_isOwn 104 = .ok (.lcmp, 1) := by decide +kernel
theorem dX13_isOwn_105 : decode cX13_isOwn 105 = .ok (.ifCond .eq 19, 3) := by decide +kernel
theorem dX13_isOwn_108 : decode cX13_isOwn 108 = .ok (.lload_n 1, 1) := by decide +kernel
theorem dX13_isOwn_109 : decode cX13_isOwn 109 = .ok (.ldc2_w 303, 3) := by decide +kernel
theorem dX13_isOwn_112 : decode cX13_isOwn 112 = .ok (.lcmp, 1) := by decide +kernel
theorem dX13_isOwn_113 : decode cX13_isOwn 113 = .ok (.ifCond .eq 11, 3) := by decide +kernel
theorem dX13_isOwn_116 : decode cX13_isOwn 116 = .ok (.lload_n 1, 1) := by decide +kernel
theorem dX13_isOwn_117 : decode cX13_isOwn 117 = .ok (.ldc2_w 305, 3) := by decide +kernel
theorem dX13_isOwn_120 : decode cX13_isOwn 120 = .ok (.lcmp, 1) := by decide +kernel
theorem dX13_isOwn_121 : decode cX13_isOwn 121 = .ok (.ifCond .ne 5, 3) := by decide +kernel
theorem dX13_isOwn_124 : decode cX13_isOwn 124 = .ok (.iconst 1, 1) := by decide +kernel
theorem dX13_isOwn_125 : decode cX13_isOwn 125 = .ok (.ireturn, 1) := by decide +kernel
theorem dX13_isOwn_126 : decode cX13_isOwn 126 = .ok (.lload_n 1, 1) := by decide +kernel
theorem dX13_isOwn_127 : decode cX13_isOwn 127 = .ok (.ldc2_w 307, 3) := by decide +kernel
theorem dX13_isOwn_130 : decode cX13_isOwn 130 = .ok (.lcmp, 1) := by decide +kernel
theorem dX13_isOwn_131 : decode cX13_isOwn 131 = .ok (.ifCond .eq 35, 3) := by decide +kernel
theorem dX13_isOwn_134 : decode cX13_isOwn 134 = .ok (.lload_n 1, 1) := by decide +kernel
theorem dX13_isOwn_135 : decode cX13_isOwn 135 = .ok (.ldc2_w 309, 3) := by decide +kernel
theorem dX13_isOwn_138 : decode cX13_isOwn 138 = .ok (.lcmp, 1) := by decide +kernel
theorem dX13_isOwn_139 : decode cX13_isOwn 139 = .ok (.ifCond .eq 27, 3) := by decide +kernel
theorem dX13_isOwn_142 : decode cX13_isOwn 142 = .ok (.lload_n 1, 1) := by decide +kernel
theorem dX13_isOwn_143 : decode cX13_isOwn 143 = .ok (.ldc2_w 311, 3) := by decide +kernel
theorem dX13_isOwn_146 : decode cX13_isOwn 146 = .ok (.lcmp, 1) := by decide +kernel
theorem dX13_isOwn_147 : decode cX13_isOwn 147 = .ok (.ifCond .eq 19, 3) := by decide +kernel
theorem dX13_isOwn_150 : decode cX13_isOwn 150 = .ok (.lload_n 1, 1) := by decide +kernel
theorem dX13_isOwn_151 : decode cX13_isOwn 151 = .ok (.ldc2_w 313, 3) := by decide +kernel
theorem dX13_isOwn_154 : decode cX13_isOwn 154 = .ok (.lcmp, 1) := by decide +kernel
theorem dX13_isOwn_155 : decode cX13_isOwn 155 = .ok (.ifCond .eq 11, 3) := by decide +kernel
theorem dX13_isOwn_158 : decode cX13_isOwn 158 = .ok (.lload_n 1, 1) := by decide +kernel
theorem dX13_isOwn_159 : decode cX13_isOwn 159 = .ok (.ldc2_w 315, 3) := by decide +kernel
theorem dX13_isOwn_162 : decode cX13_isOwn 162 = .ok (.lcmp, 1) := by decide +kernel
theorem dX13_isOwn_163 : decode cX13_isOwn 163 = .ok (.ifCond .ne 5, 3) := by decide +kernel
theorem dX13_isOwn_166 : decode cX13_isOwn 166 = .ok (.iconst 1, 1) := by decide +kernel
theorem dX13_isOwn_167 : decode cX13_isOwn 167 = .ok (.ireturn, 1) := by decide +kernel
theorem dX13_isOwn_168 : decode cX13_isOwn 168 = .ok (.lload_n 1, 1) := by decide +kernel
theorem dX13_isOwn_169 : decode cX13_isOwn 169 = .ok (.ldc2_w 317, 3) := by decide +kernel
theorem dX13_isOwn_172 : decode cX13_isOwn 172 = .ok (.lcmp, 1) := by decide +kernel
theorem dX13_isOwn_173 : decode cX13_isOwn 173 = .ok (.ifCond .eq 35, 3) := by decide +kernel
theorem dX13_isOwn_176 : decode cX13_isOwn 176 = .ok (.lload_n 1, 1) := by decide +kernel
theorem dX13_isOwn_177 : decode cX13_isOwn 177 = .ok (.ldc2_w 319, 3) := by decide +kernel
theorem dX13_isOwn_180 : decode cX13_isOwn 180 = .ok (.lcmp, 1) := by decide +kernel
theorem dX13_isOwn_181 : decode cX13_isOwn 181 = .ok (.ifCond .eq 27, 3) := by decide +kernel
theorem dX13_isOwn_184 : decode cX13_isOwn 184 = .ok (.lload_n 1, 1) := by decide +kernel
theorem dX13_isOwn_185 : decode cX13_isOwn 185 = .ok (.ldc2_w 321, 3) := by decide +kernel
theorem dX13_isOwn_188 : decode cX13_isOwn 188 = .ok (.lcmp, 1) := by decide +kernel
theorem dX13_isOwn_189 : decode cX13_isOwn 189 = .ok (.ifCond .eq 19, 3) := by decide +kernel
theorem dX13_isOwn_192 : decode cX13_isOwn 192 = .ok (.lload_n 1, 1) := by decide +kernel
theorem dX13_isOwn_193 : decode cX13_isOwn 193 = .ok (.ldc2_w 323, 3) := by decide +kernel
theorem dX13_isOwn_196 : decode cX13_isOwn 196 = .ok (.lcmp, 1) := by decide +kernel
theorem dX13_isOwn_197 : decode cX13_isOwn 197 = .ok (.ifCond .eq 11, 3) := by decide +kernel
theorem dX13_isOwn_200 : decode cX13_isOwn 200 = .ok (.lload_n 1, 1) := by decide +kernel
theorem dX13_isOwn_201 : decode cX13_isOwn 201 = .ok (.ldc2_w 325, 3) := by decide +kernel
theorem dX13_isOwn_204 : decode cX13_isOwn 204 = .ok (.lcmp, 1) := by decide +kernel
theorem dX13_isOwn_205 : decode cX13_isOwn 205 = .ok (.ifCond .ne 5, 3) := by decide +kernel
theorem dX13_isOwn_208 : decode cX13_isOwn 208 = .ok (.iconst 1, 1) := by decide +kernel
theorem dX13_isOwn_209 : decode cX13_isOwn 209 = .ok (.ireturn, 1) := by decide +kernel
theorem dX13_isOwn_210 : decode cX13_isOwn 210 = .ok (.lload_n 1, 1) := by decide +kernel
theorem dX13_isOwn_211 : decode cX13_isOwn 211 = .ok (.ldc2_w 327, 3) := by decide +kernel
theorem dX13_isOwn_214 : decode cX13_isOwn 214 = .ok (.lcmp, 1) := by decide +kernel
theorem dX13_isOwn_215 : decode cX13_isOwn 215 = .ok (.ifCond .eq 35, 3) := by decide +kernel
theorem dX13_isOwn_218 : decode cX13_isOwn 218 = .ok (.lload_n 1, 1) := by decide +kernel
theorem dX13_isOwn_219 : decode cX13_isOwn 219 = .ok (.ldc2_w 329, 3) := by decide +kernel
theorem dX13_isOwn_222 : decode cX13_isOwn 222 = .ok (.lcmp, 1) := by decide +kernel
theorem dX13_isOwn_223 : decode cX13_isOwn 223 = .ok (.ifCond .eq 27, 3) := by decide +kernel
theorem dX13_isOwn_226 : decode cX13_isOwn 226 = .ok (.lload_n 1, 1) := by decide +kernel
theorem dX13_isOwn_227 : decode cX13_isOwn 227 = .ok (.ldc2_w 331, 3) := by decide +kernel
theorem dX13_isOwn_230 : decode cX13_isOwn 230 = .ok (.lcmp, 1) := by decide +kernel
theorem dX13_isOwn_231 : decode cX13_isOwn 231 = .ok (.ifCond .eq 19, 3) := by decide +kernel
theorem dX13_isOwn_234 : decode cX13_isOwn 234 = .ok (.lload_n 1, 1) := by decide +kernel
theorem dX13_isOwn_235 : decode cX13_isOwn 235 = .ok (.ldc2_w 333, 3) := by decide +kernel
theorem dX13_isOwn_238 : decode cX13_isOwn 238 = .ok (.lcmp, 1) := by decide +kernel
theorem dX13_isOwn_239 : decode cX13_isOwn 239 = .ok (.ifCond .eq 11, 3) := by decide +kernel
theorem dX13_isOwn_242 : decode cX13_isOwn 242 = .ok (.lload_n 1, 1) := by decide +kernel
theorem dX13_isOwn_243 : decode cX13_isOwn 243 = .ok (.ldc2_w 335, 3) := by decide +kernel
theorem dX13_isOwn_246 : decode cX13_isOwn 246 = .ok (.lcmp, 1) := by decide +kernel
theorem dX13_isOwn_247 : decode cX13_isOwn 247 = .ok (.ifCond .ne 5, 3) := by decide +kernel
theorem dX13_isOwn_250 : decode cX13_isOwn 250 = .ok (.iconst 1, 1) := by decide +kernel
theorem dX13_isOwn_251 : decode cX13_isOwn 251 = .ok (.ireturn, 1) := by decide +kernel
theorem dX13_isOwn_252 : decode cX13_isOwn 252 = .ok (.lload_n 1, 1) := by decide +kernel
theorem dX13_isOwn_253 : decode cX13_isOwn 253 = .ok (.ldc2_w 337, 3) := by decide +kernel
theorem dX13_isOwn_256 : decode cX13_isOwn 256 = .ok (.lcmp, 1) := by decide +kernel
theorem dX13_isOwn_257 : decode cX13_isOwn 257 = .ok (.ifCond .ne 5, 3) := by decide +kernel
theorem dX13_isOwn_260 : decode cX13_isOwn 260 = .ok (.iconst 1, 1) := by decide +kernel
theorem dX13_isOwn_261 : decode cX13_isOwn 261 = .ok (.ireturn, 1) := by decide +kernel
theorem dX13_isOwn_262 : decode cX13_isOwn 262 = .ok (.iconst 0, 1) := by decide +kernel
theorem dX13_isOwn_263 : decode cX13_isOwn 263 = .ok (.ireturn, 1) := by decide +kernel
theorem dX13_isDefault_0 : decode cX13_isDefault 0 = .ok (.aload_n 0, 1) := by decide +kernel
theorem dX13_isDefault_1 : decode cX13_isDefault 1 = .ok (.getfield 93, 3) := by decide +kernel
theorem dX13_isDefault_4 : decode cX13_isDefault 4 = .ok (.iconst 5, 1) := by decide +kernel
theorem dX13_isDefault_5 : decode cX13_isDefault 5 = .ok (.iload_n 1, 1) := by decide +kernel
theorem dX13_isDefault_6 : decode cX13_isDefault 6 = .ok (.imul, 1) := by decide +kernel
theorem dX13_isDefault_7 : decode cX13_isDefault 7 = .ok (.iconst 0, 1) := by decide +kernel
theorem dX13_isDefault_8 : decode cX13_isDefault 8 = .ok (.iadd, 1) := by decide +kernel
theorem dX13_isDefault_9 : decode cX13_isDefault 9 = .ok (.bipush 7, 2) := by decide +kernel
theorem dX13_isDefault_11 : decode cX13_isDefault 11 = .ok (.iastore, 1) := by decide +kernel
theorem dX13_isDefault_12 : decode cX13_isDefault 12 = .ok (.aload_n 0, 1) := by decide +kernel
theorem dX13_isDefault_13 : decode cX13_isDefault 13 = .ok (.getfield 93, 3) := by decide +kernel
theorem dX13_isDefault_16 : decode cX13_isDefault 16 = .ok (.iconst 5, 1) := by decide +kernel
theorem dX13_isDefault_17 : decode cX13_isDefault 17 = .ok (.iload_n 1, 1) := by decide +kernel
theorem dX13_isDefault_18 : decode cX13_isDefault 18 = .ok (.imul, 1) := by decide +kernel
theorem dX13_isDefault_19 : decode cX13_isDefault 19 = .ok (.iconst 1, 1) := by decide +kernel
theorem dX13_isDefault_20 : decode cX13_isDefault 20 = .ok (.iadd, 1) := by decide +kernel
theorem dX13_isDefault_21 : decode cX13_isDefault 21 = .ok (.bipush 21, 2) := by decide +kernel
theorem dX13_isDefault_23 : decode cX13_isDefault 23 = .ok (.iastore, 1) := by decide +kernel
theorem dX13_isDefault_24 : decode cX13_isDefault 24 = .ok (.aload_n 0, 1) := by decide +kernel
theorem dX13_isDefault_25 : decode cX13_isDefault 25 = .ok (.getfield 93, 3) := by decide +kernel
theorem dX13_isDefault_28 : decode cX13_isDefault 28 = .ok (.iconst 5, 1) := by decide +kernel
theorem dX13_isDefault_29 : decode cX13_isDefault 29 = .ok (.iload_n 1, 1) := by decide +kernel
theorem dX13_isDefault_30 : decode cX13_isDefault 30 = .ok (.imul, 1) := by decide +kernel
theorem dX13_isDefault_31 : decode cX13_isDefault 31 = .ok (.iconst 2, 1) := by decide +kernel
theorem dX13_isDefault_32 : decode cX13_isDefault 32 = .ok (.iadd, 1) := by decide +kernel
theorem dX13_isDefault_33 : decode cX13_isDefault 33 = .ok (.bipush 10, 2) := by decide +kernel
theorem dX13_isDefault_35 : decode cX13_isDefault 35 = .ok (.iastore, 1) := by decide +kernel
theorem dX13_isDefault_36 : decode cX13_isDefault 36 = .ok (.aload_n 0, 1) := by decide +kernel
theorem dX13_isDefault_37 : decode cX13_isDefault 37 = .ok (.getfield 93, 3) := by decide +kernel
theorem dX13_isDefault_40 : decode cX13_isDefault 40 = .ok (.iconst 5, 1) := by decide +kernel
theorem dX13_isDefault_41 : decode cX13_isDefault 41 = .ok (.iload_n 1, 1) := by decide +kernel
theorem dX13_isDefault_42 : decode cX13_isDefault 42 = .ok (.imul, 1) := by decide +kernel
theorem dX13_isDefault_43 : decode cX13_isDefault 43 = .ok (.iconst 3, 1) := by decide +kernel
theorem dX13_isDefault_44 : decode cX13_isDefault 44 = .ok (.iadd, 1) := by decide +kernel
theorem dX13_isDefault_45 : decode cX13_isDefault 45 = .ok (.iconst 0, 1) := by decide +kernel
theorem dX13_isDefault_46 : decode cX13_isDefault 46 = .ok (.iastore, 1) := by decide +kernel
theorem dX13_isDefault_47 : decode cX13_isDefault 47 = .ok (.aload_n 0, 1) := by decide +kernel
theorem dX13_isDefault_48 : decode cX13_isDefault 48 = .ok (.getfield 93, 3) := by decide +kernel
theorem dX13_isDefault_51 : decode cX13_isDefault 51 = .ok (.iconst 5, 1) := by decide +kernel
theorem dX13_isDefault_52 : decode cX13_isDefault 52 = .ok (.iload_n 1, 1) := by decide +kernel
theorem dX13_isDefault_53 : decode cX13_isDefault 53 = .ok (.imul, 1) := by decide +kernel
theorem dX13_isDefault_54 : decode cX13_isDefault 54 = .ok (.iconst 4, 1) := by decide +kernel
theorem dX13_isDefault_55 : decode cX13_isDefault 55 = .ok (.iadd, 1) := by decide +kernel
theorem dX13_isDefault_56 : decode cX13_isDefault 56 = .ok (.iconst 5, 1) := by decide +kernel
theorem dX13_isDefault_57 : decode cX13_isDefault 57 = .ok (.iastore, 1) := by decide +kernel
theorem dX13_isDefault_58 : decode cX13_isDefault 58 = .ok (.return_, 1) := by decide +kernel
theorem dX13_toldOf_0 : decode cX13_toldOf 0 = .ok (.aload_n 0, 1) := by decide +kernel
theorem dX13_toldOf_1 : decode cX13_toldOf 1 = .ok (.getfield 93, 3) := by decide +kernel
theorem dX13_toldOf_4 : decode cX13_toldOf 4 = .ok (.iconst 5, 1) := by decide +kernel
theorem dX13_toldOf_5 : decode cX13_toldOf 5 = .ok (.aload_n 0, 1) := by decide +kernel
theorem dX13_toldOf_6 : decode cX13_toldOf 6 = .ok (.getfield 51, 3) := by decide +kernel
theorem dX13_toldOf_9 : decode cX13_toldOf 9 = .ok (.imul, 1) := by decide +kernel
theorem dX13_toldOf_10 : decode cX13_toldOf 10 = .ok (.iload_n 1, 1) := by decide +kernel
theorem dX13_toldOf_11 : decode cX13_toldOf 11 = .ok (.iadd, 1) := by decide +kernel
theorem dX13_toldOf_12 : decode cX13_toldOf 12 = .ok (.iaload, 1) := by decide +kernel
theorem dX13_toldOf_13 : decode cX13_toldOf 13 = .ok (.ireturn, 1) := by decide +kernel
theorem dX13_manyOf_0 : decode cX13_manyOf 0 = .ok (.iload_n 2, 1) := by decide +kernel
theorem dX13_manyOf_1 : decode cX13_manyOf 1 = .ok (.ifCond .ne 12, 3) := by decide +kernel
theorem dX13_manyOf_4 : decode cX13_manyOf 4 = .ok (.aload_n 0, 1) := by decide +kernel
theorem dX13_manyOf_5 : decode cX13_manyOf 5 = .ok (.getfield 54, 3) := by decide +kernel
theorem dX13_manyOf_8 : decode cX13_manyOf 8 = .ok (.iload_n 1, 1) := by decide +kernel
theorem dX13_manyOf_9 : decode cX13_manyOf 9 = .ok (.iaload, 1) := by decide +kernel
theorem dX13_manyOf_10 : decode cX13_manyOf 10 = .ok (.goto 23, 3) := by decide +kernel
theorem dX13_manyOf_13 : decode cX13_manyOf 13 = .ok (.iload_n 2, 1) := by decide +kernel
theorem dX13_manyOf_14 : decode cX13_manyOf 14 = .ok (.iconst 1, 1) := by decide +kernel
theorem dX13_manyOf_15 : decode cX13_manyOf 15 = .ok (.if_icmp .ne 12, 3) := by decide +kernel
theorem dX13_manyOf_18 : decode cX13_manyOf 18 = .ok (.aload_n 0, 1) := by decide +kernel
theorem dX13_manyOf_19 : decode cX13_manyOf 19 = .ok (.getfield 63, 3) := by decide +kernel
theorem dX13_manyOf_22 : decode cX13_manyOf 22 = .ok (.iload_n 1, 1) := by decide +kernel
theorem dX13_manyOf_23 : decode cX13_manyOf 23 = .ok (.iaload, 1) := by decide +kernel
theorem dX13_manyOf_24 : decode cX13_manyOf 24 = .ok (.goto 9, 3) := by decide +kernel
theorem dX13_manyOf_27 : decode cX13_manyOf 27 = .ok (.aload_n 0, 1) := by decide +kernel
theorem dX13_manyOf_28 : decode cX13_manyOf 28 = .ok (.getfield 84, 3) := by decide +kernel
theorem dX13_manyOf_31 : decode cX13_manyOf 31 = .ok (.iload_n 1, 1) := by decide +kernel
theorem dX13_manyOf_32 : decode cX13_manyOf 32 = .ok (.iaload, 1) := by decide +kernel
theorem dX13_manyOf_33 : decode cX13_manyOf 33 = .ok (.ireturn, 1) := by decide +kernel
theorem dX13_nameOf_0 : decode cX13_nameOf 0 = .ok (.iload_n 2, 1) := by decide +kernel
theorem dX13_nameOf_1 : decode cX13_nameOf 1 = .ok (.ifCond .ne 17, 3) := by decide +kernel
theorem dX13_nameOf_4 : decode cX13_nameOf 4 = .ok (.aload_n 0, 1) := by decide +kernel
theorem dX13_nameOf_5 : decode cX13_nameOf 5 = .ok (.getfield 108, 3) := by decide +kernel
theorem dX13_nameOf_8 : decode cX13_nameOf 8 = .ok (.bipush 6, 2) := by decide +kernel
theorem dX13_nameOf_10 : decode cX13_nameOf 10 = .ok (.iload_n 1, 1) := by decide +kernel
theorem dX13_nameOf_11 : decode cX13_nameOf 11 = .ok (.imul, 1) := by decide +kernel
theorem dX13_nameOf_12 : decode cX13_nameOf 12 = .ok (.iload_n 3, 1) := by decide +kernel
theorem dX13_nameOf_13 : decode cX13_nameOf 13 = .ok (.iadd, 1) := by decide +kernel
theorem dX13_nameOf_14 : decode cX13_nameOf 14 = .ok (.laload, 1) := by decide +kernel
theorem dX13_nameOf_15 : decode cX13_nameOf 15 = .ok (.goto 32, 3) := by decide +kernel
theorem dX13_nameOf_18 : decode cX13_nameOf 18 = .ok (.iload_n 2, 1) := by decide +kernel
theorem dX13_nameOf_19 : decode cX13_nameOf 19 = .ok (.iconst 1, 1) := by decide +kernel
theorem dX13_nameOf_20 : decode cX13_nameOf 20 = .ok (.if_icmp .ne 17, 3) := by decide +kernel
theorem dX13_nameOf_23 : decode cX13_nameOf 23 = .ok (.aload_n 0, 1) := by decide +kernel
theorem dX13_nameOf_24 : decode cX13_nameOf 24 = .ok (.getfield 112, 3) := by decide +kernel
theorem dX13_nameOf_27 : decode cX13_nameOf 27 = .ok (.bipush 8, 2) := by decide +kernel
theorem dX13_nameOf_29 : decode cX13_nameOf 29 = .ok (.iload_n 1, 1) := by decide +kernel
theorem dX13_nameOf_30 : decode cX13_nameOf 30 = .ok (.imul, 1) := by decide +kernel
theorem dX13_nameOf_31 : decode cX13_nameOf 31 = .ok (.iload_n 3, 1) := by decide +kernel
theorem dX13_nameOf_32 : decode cX13_nameOf 32 = .ok (.iadd, 1) := by decide +kernel
theorem dX13_nameOf_33 : decode cX13_nameOf 33 = .ok (.laload, 1) := by decide +kernel
theorem dX13_nameOf_34 : decode cX13_nameOf 34 = .ok (.goto 13, 3) := by decide +kernel
theorem dX13_nameOf_37 : decode cX13_nameOf 37 = .ok (.aload_n 0, 1) := by decide +kernel
theorem dX13_nameOf_38 : decode cX13_nameOf 38 = .ok (.getfield 115, 3) := by decide +kernel
theorem dX13_nameOf_41 : decode cX13_nameOf 41 = .ok (.iconst 4, 1) := by decide +kernel
theorem dX13_nameOf_42 : decode cX13_nameOf 42 = .ok (.iload_n 1, 1) := by decide +kernel
theorem dX13_nameOf_43 : decode cX13_nameOf 43 = .ok (.imul, 1) := by decide +kernel
theorem dX13_nameOf_44 : decode cX13_nameOf 44 = .ok (.iload_n 3, 1) := by decide +kernel
theorem dX13_nameOf_45 : decode cX13_nameOf 45 = .ok (.iadd, 1) := by decide +kernel
theorem dX13_nameOf_46 : decode cX13_nameOf 46 = .ok (.laload, 1) := by decide +kernel
theorem dX13_nameOf_47 : decode cX13_nameOf 47 = .ok (.lreturn, 1) := by decide +kernel
theorem dX13_named_0 : decode cX13_named 0 = .ok (.iconst 0, 1) := by decide +kernel
theorem dX13_named_1 : decode cX13_named 1 = .ok (.istore 4, 2) := by decide +kernel
theorem dX13_named_3 : decode cX13_named 3 = .ok (.iload 4, 2) := by decide +kernel
theorem dX13_named_5 : decode cX13_named 5 = .ok (.aload_n 0, 1) := by decide +kernel
theorem dX13_named_6 : decode cX13_named 6 = .ok (.aload_n 0, 1) := by decide +kernel
theorem dX13_named_7 : decode cX13_named 7 = .ok (.getfield 121, 3) := by decide +kernel
theorem dX13_named_10 : decode cX13_named 10 = .ok (.iload_n 1, 1) := by decide +kernel
theorem dX13_named_11 : decode cX13_named 11 = .ok (.invokevirtual 339, 3) := by decide +kernel
theorem dX13_named_14 : decode cX13_named 14 = .ok (.if_icmp .ge 28, 3) := by decide +kernel
theorem dX13_named_17 : decode cX13_named 17 = .ok (.aload_n 0, 1) := by decide +kernel
theorem dX13_named_18 : decode cX13_named 18 = .ok (.aload_n 0, 1) := by decide +kernel
theorem dX13_named_19 : decode cX13_named 19 = .ok (.getfield 121, 3) := by decide +kernel
theorem dX13_named_22 : decode cX13_named 22 = .ok (.iload_n 1, 1) := by decide +kernel
theorem dX13_named_23 : decode cX13_named 23 = .ok (.iload 4, 2) := by decide +kernel
theorem dX13_named_25 : decode cX13_named 25 = .ok (.invokevirtual 343, 3) := by decide +kernel
theorem dX13_named_28 : decode cX13_named 28 = .ok (.lload_n 2, 1) := by decide +kernel
theorem dX13_named_29 : decode cX13_named 29 = .ok (.lcmp, 1) := by decide +kernel
theorem dX13_named_30 : decode cX13_named 30 = .ok (.ifCond .ne 6, 3) := by decide +kernel
theorem dX13_named_33 : decode cX13_named 33 = .ok (.iload 4, 2) := by decide +kernel
theorem dX13_named_35 : decode cX13_named 35 = .ok (.ireturn, 1) := by decide +kernel
theorem dX13_named_36 : decode cX13_named 36 = .ok (.iinc 4 1, 3) := by decide +kernel
theorem dX13_named_39 : decode cX13_named 39 = .ok (.goto (-36), 3) := by decide +kernel
theorem dX13_named_42 : decode cX13_named 42 = .ok (.iconst (-1), 1) := by decide +kernel
theorem dX13_named_43 : decode cX13_named 43 = .ok (.ireturn, 1) := by decide +kernel
theorem dX13_number_0 : decode cX13_number 0 = .ok (.aload_n 0, 1) := by decide +kernel
theorem dX13_number_1 : decode cX13_number 1 = .ok (.invokevirtual 268, 3) := by decide +kernel
theorem dX13_number_4 : decode cX13_number 4 = .ok (.aload_n 0, 1) := by decide +kernel
theorem dX13_number_5 : decode cX13_number 5 = .ok (.getfield 36, 3) := by decide +kernel
theorem dX13_number_8 : decode cX13_number 8 = .ok (.ifCond .le 5, 3) := by decide +kernel
theorem dX13_number_11 : decode cX13_number 11 = .ok (.iconst 0, 1) := by decide +kernel
theorem dX13_number_12 : decode cX13_number 12 = .ok (.ireturn, 1) := by decide +kernel
theorem dX13_number_13 : decode cX13_number 13 = .ok (.aload_n 0, 1) := by decide +kernel
theorem dX13_number_14 : decode cX13_number 14 = .ok (.getfield 20, 3) := by decide +kernel
theorem dX13_number_17 : decode cX13_number 17 = .ok (.iconst 2, 1) := by decide +kernel
theorem dX13_number_18 : decode cX13_number 18 = .ok (.if_icmp .eq 12, 3) := by decide +kernel
theorem dX13_number_21 : decode cX13_number 21 = .ok (.aload_n 0, 1) := by decide +kernel
theorem dX13_number_22 : decode cX13_number 22 = .ok (.iconst 1, 1) := by decide +kernel
theorem dX13_number_23 : decode cX13_number 23 = .ok (.aload_n 0, 1) := by decide +kernel
theorem dX13_number_24 : decode cX13_number 24 = .ok (.getfield 23, 3) := by decide +kernel
theorem dX13_number_27 : decode cX13_number 27 = .ok (.invokevirtual 257, 3) := by decide +kernel
theorem dX13_number_30 : decode cX13_number 30 = .ok (.aload_n 0, 1) := by decide +kernel
theorem dX13_number_31 : decode cX13_number 31 = .ok (.getfield 36, 3) := by decide +kernel
theorem dX13_number_34 : decode cX13_number 34 = .ok (.ifCond .ne 24, 3) := by decide +kernel
theorem dX13_number_37 : decode cX13_number 37 = .ok (.aload_n 0, 1) := by decide +kernel
theorem dX13_number_38 : decode cX13_number 38 = .ok (.getfield 29, 3) := by decide +kernel
theorem dX13_number_41 : decode cX13_number 41 = .ok (.iload_n 1, 1) := by decide +kernel
theorem dX13_number_42 : decode cX13_number 42 = .ok (.iload_n 2, 1) := by decide +kernel
theorem dX13_number_43 : decode cX13_number 43 = .ok (.invokestatic 347, 3) := by decide +kernel
theorem dX13_number_46 : decode cX13_number 46 = .ok (.ifCond .ne 12, 3) := by decide +kernel
theorem dX13_number_49 : decode cX13_number 49 = .ok (.aload_n 0, 1) := by decide +kernel
theorem dX13_number_50 : decode cX13_number 50 = .ok (.iconst 4, 1) := by decide +kernel
theorem dX13_number_51 : decode cX13_number 51 = .ok (.aload_n 0, 1) := by decide +kernel
theorem dX13_number_52 : decode cX13_number 52 = .ok (.getfield 23, 3) := by decide +kernel
theorem dX13_number_55 : decode cX13_number 55 = .ok (.invokevirtual 257, 3) := by decide +kernel
theorem dX13_number_58 : decode cX13_number 58 = .ok (.aload_n 0, 1) := by decide +kernel
theorem dX13_number_59 : decode cX13_number 59 = .ok (.getfield 29, 3) := by decide +kernel
theorem dX13_number_62 : decode cX13_number 62 = .ok (.istore_n 3, 1) := by decide +kernel
theorem dX13_number_63 : decode cX13_number 63 = .ok (.aload_n 0, 1) := by decide +kernel
theorem dX13_number_64 : decode cX13_number 64 = .ok (.getfield 36, 3) := by decide +kernel
theorem dX13_number_67 : decode cX13_number 67 = .ok (.ifCond .ne 7, 3) := by decide +kernel
theorem dX13_number_70 : decode cX13_number 70 = .ok (.aload_n 0, 1) := by decide +kernel
theorem dX13_number_71 : decode cX13_number 71 = .ok (.invokevirtual 274, 3) := by decide +kernel
theorem dX13_number_74 : decode cX13_number 74 = .ok (.iload_n 3, 1) := by decide +kernel
theorem dX13_number_75 : decode cX13_number 75 = .ok (.ireturn, 1) := by decide +kernel
theorem dX13_add_0 : decode cX13_add 0 = .ok (.aload_n 0, 1) := by decide +kernel
theorem dX13_add_1 : decode cX13_add 1 = .ok (.getfield 102, 3) := by decide +kernel
theorem dX13_add_4 : decode cX13_add 4 = .ok (.sipush 1600, 3) := by decide +kernel
theorem dX13_add_7 : decode cX13_add 7 = .ok (.aload_n 0, 1) := by decide +kernel
theorem dX13_add_8 : decode cX13_add 8 = .ok (.getfield 121, 3) := by decide +kernel
theorem dX13_add_11 : decode cX13_add 11 = .ok (.imul, 1) := by decide +kernel
theorem dX13_add_12 : decode cX13_add 12 = .ok (.aload_n 0, 1) := by decide +kernel
theorem dX13_add_13 : decode cX13_add 13 = .ok (.getfield 118, 3) := by decide +kernel
theorem dX13_add_16 : decode cX13_add 16 = .ok (.iadd, 1) := by decide +kernel
theorem dX13_add_17 : decode cX13_add 17 = .ok (.iload_n 1, 1) := by decide +kernel
theorem dX13_add_18 : decode cX13_add 18 = .ok (.iastore, 1) := by decide +kernel
theorem dX13_add_19 : decode cX13_add 19 = .ok (.aload_n 0, 1) := by decide +kernel
theorem dX13_add_20 : decode cX13_add 20 = .ok (.getfield 105, 3) := by decide +kernel
theorem dX13_add_23 : decode cX13_add 23 = .ok (.sipush 1600, 3) := by decide +kernel
theorem dX13_add_26 : decode cX13_add 26 = .ok (.aload_n 0, 1) := by decide +kernel
theorem dX13_add_27 : decode cX13_add 27 = .ok (.getfield 121, 3) := by decide +kernel
theorem dX13_add_30 : decode cX13_add 30 = .ok (.imul, 1) := by decide +kernel
theorem dX13_add_31 : decode cX13_add 31 = .ok (.aload_n 0, 1) := by decide +kernel
theorem dX13_add_32 : decode cX13_add 32 = .ok (.getfield 118, 3) := by decide +kernel
theorem dX13_add_35 : decode cX13_add 35 = .ok (.iadd, 1) := by decide +kernel
theorem dX13_add_36 : decode cX13_add 36 = .ok (.iload_n 2, 1) := by decide +kernel
theorem dX13_add_37 : decode cX13_add 37 = .ok (.iastore, 1) := by decide +kernel
theorem dX13_add_38 : decode cX13_add 38 = .ok (.aload_n 0, 1) := by decide +kernel
theorem dX13_add_39 : decode cX13_add 39 = .ok (.dup, 1) := by decide +kernel
theorem dX13_add_40 : decode cX13_add 40 = .ok (.getfield 118, 3) := by decide +kernel
theorem dX13_add_43 : decode cX13_add 43 = .ok (.iconst 1, 1) := by decide +kernel
theorem dX13_add_44 : decode cX13_add 44 = .ok (.iadd, 1) := by decide +kernel
theorem dX13_add_45 : decode cX13_add 45 = .ok (.putfield 118, 3) := by decide +kernel
theorem dX13_add_48 : decode cX13_add 48 = .ok (.return_, 1) := by decide +kernel
theorem dX13_rank_0 : decode cX13_rank 0 = .ok (.iload_n 0, 1) := by decide +kernel
theorem dX13_rank_1 : decode cX13_rank 1 = .ok (.bipush 42, 2) := by decide +kernel
theorem dX13_rank_3 : decode cX13_rank 3 = .ok (.if_icmp .ne 7, 3) := by decide +kernel
theorem dX13_rank_6 : decode cX13_rank 6 = .ok (.iconst 1, 1) := by decide +kernel
theorem dX13_rank_7 : decode cX13_rank 7 = .ok (.goto 63, 3) := by decide +kernel
theorem dX13_rank_10 : decode cX13_rank 10 = .ok (.iload_n 0, 1) := by decide +kernel
theorem dX13_rank_11 : decode cX13_rank 11 = .ok (.bipush 41, 2) := by decide +kernel
theorem dX13_rank_13 : decode cX13_rank 13 = .ok (.if_icmp .ne 7, 3) := by decide +kernel
theorem dX13_rank_16 : decode cX13_rank 16 = .ok (.iconst 2, 1) := by decide +kernel
theorem dX13_rank_17 : decode cX13_rank 17 = .ok (.goto 53, 3) := by decide +kernel
theorem dX13_rank_20 : decode cX13_rank 20 = .ok (.iload_n 0, 1) := by decide +kernel
theorem dX13_rank_21 : decode cX13_rank 21 = .ok (.bipush 43, 2) := by decide +kernel
theorem dX13_rank_23 : decode cX13_rank 23 = .ok (.if_icmp .ne 7, 3) := by decide +kernel
theorem dX13_rank_26 : decode cX13_rank 26 = .ok (.iconst 3, 1) := by decide +kernel
theorem dX13_rank_27 : decode cX13_rank 27 = .ok (.goto 43, 3) := by decide +kernel
theorem dX13_rank_30 : decode cX13_rank 30 = .ok (.iload_n 0, 1) := by decide +kernel
theorem dX13_rank_31 : decode cX13_rank 31 = .ok (.bipush 38, 2) := by decide +kernel
theorem dX13_rank_33 : decode cX13_rank 33 = .ok (.if_icmp .eq 15, 3) := by decide +kernel
theorem dX13_rank_36 : decode cX13_rank 36 = .ok (.iload_n 0, 1) := by decide +kernel
theorem dX13_rank_37 : decode cX13_rank 37 = .ok (.bipush 39, 2) := by decide +kernel
theorem dX13_rank_39 : decode cX13_rank 39 = .ok (.if_icmp .eq 9, 3) := by decide +kernel
theorem dX13_rank_42 : decode cX13_rank 42 = .ok (.iload_n 0, 1) := by decide +kernel
theorem dX13_rank_43 : decode cX13_rank 43 = .ok (.bipush 40, 2) := by decide +kernel
theorem dX13_rank_45 : decode cX13_rank 45 = .ok (.if_icmp .ne 7, 3) := by decide +kernel
theorem dX13_rank_48 : decode cX13_rank 48 = .ok (.iconst 4, 1) := by decide +kernel
theorem dX13_rank_49 : decode cX13_rank 49 = .ok (.goto 21, 3) := by decide +kernel
theorem dX13_rank_52 : decode cX13_rank 52 = .ok (.iload_n 0, 1) := by decide +kernel
theorem dX13_rank_53 : decode cX13_rank 53 = .ok (.bipush 31, 2) := by decide +kernel
theorem dX13_rank_55 : decode cX13_rank 55 = .ok (.if_icmp .eq 9, 3) := by decide +kernel
theorem dX13_rank_58 : decode cX13_rank 58 = .ok (.iload_n 0, 1) := by decide +kernel
theorem dX13_rank_59 : decode cX13_rank 59 = .ok (.bipush 32, 2) := by decide +kernel
theorem dX13_rank_61 : decode cX13_rank 61 = .ok (.if_icmp .ne 7, 3) := by decide +kernel
theorem dX13_rank_64 : decode cX13_rank 64 = .ok (.iconst 5, 1) := by decide +kernel
theorem dX13_rank_65 : decode cX13_rank 65 = .ok (.goto 5, 3) := by decide +kernel
theorem dX13_rank_68 : decode cX13_rank 68 = .ok (.bipush 6, 2) := by decide +kernel
theorem dX13_rank_70 : decode cX13_rank 70 = .ok (.ireturn, 1) := by decide +kernel
theorem dX13_joins_0 : decode cX13_joins 0 = .ok (.aload_n 0, 1) := by decide +kernel
theorem dX13_joins_1 : decode cX13_joins 1 = .ok (.getfield 153, 3) := by decide +kernel
theorem dX13_joins_4 : decode cX13_joins 4 = .ok (.aload_n 0, 1) := by decide +kernel
theorem dX13_joins_5 : decode cX13_joins 5 = .ok (.getfield 141, 3) := by decide +kernel
theorem dX13_joins_8 : decode cX13_joins 8 = .ok (.aload_n 0, 1) := by decide +kernel
theorem dX13_joins_9 : decode cX13_joins 9 = .ok (.getfield 144, 3) := by decide +kernel
theorem dX13_joins_12 : decode cX13_joins 12 = .ok (.iconst 1, 1) := by decide +kernel
theorem dX13_joins_13 : decode cX13_joins 13 = .ok (.isub, 1) := by decide +kernel
theorem dX13_joins_14 : decode cX13_joins 14 = .ok (.iaload, 1) := by decide +kernel
theorem dX13_joins_15 : decode cX13_joins 15 = .ok (.if_icmp .le 72, 3) := by decide +kernel
theorem dX13_joins_18 : decode cX13_joins 18 = .ok (.aload_n 0, 1) := by decide +kernel
theorem dX13_joins_19 : decode cX13_joins 19 = .ok (.getfield 150, 3) := by decide +kernel
theorem dX13_joins_22 : decode cX13_joins 22 = .ok (.aload_n 0, 1) := by decide +kernel
theorem dX13_joins_23 : decode cX13_joins 23 = .ok (.getfield 153, 3) := by decide +kernel
theorem dX13_joins_26 : decode cX13_joins 26 = .ok (.iconst 1, 1) := by decide +kernel
theorem dX13_joins_27 : decode cX13_joins 27 = .ok (.isub, 1) := by decide +kernel
theorem dX13_joins_28 : decode cX13_joins 28 = .ok (.iaload, 1) := by decide +kernel
theorem dX13_joins_29 : decode cX13_joins 29 = .ok (.invokestatic 351, 3) := by decide +kernel
theorem dX13_joins_32 : decode cX13_joins 32 = .ok (.iload_n 1, 1) := by decide +kernel
theorem dX13_joins_33 : decode cX13_joins 33 = .ok (.if_icmp .lt 54, 3) := by decide +kernel
theorem dX13_joins_36 : decode cX13_joins 36 = .ok (.aload_n 0, 1) := by decide +kernel
theorem dX13_joins_37 : decode cX13_joins 37 = .ok (.dup, 1) := by decide +kernel
theorem dX13_joins_38 : decode cX13_joins 38 = .ok (.getfield 153, 3) := by decide +kernel
theorem dX13_joins_41 : decode cX13_joins 41 = .ok (.iconst 1, 1) := by decide +kernel
theorem dX13_joins_42 : decode cX13_joins 42 = .ok (.isub, 1) := by decide +kernel
theorem dX13_joins_43 : decode cX13_joins 43 = .ok (.putfield 153, 3) := by decide +kernel
theorem dX13_joins_46 : decode cX13_joins 46 = .ok (.aload_n 0, 1) := by decide +kernel
theorem dX13_joins_47 : decode cX13_joins 47 = .ok (.aload_n 0, 1) := by decide +kernel
theorem dX13_joins_48 : decode cX13_joins 48 = .ok (.getfield 150, 3) := by decide +kernel
theorem dX13_joins_51 : decode cX13_joins 51 = .ok (.aload_n 0, 1) := by decide +kernel
theorem dX13_joins_52 : decode cX13_joins 52 = .ok (.getfield 153, 3) := by decide +kernel
theorem dX13_joins_55 : decode cX13_joins 55 = .ok (.iaload, 1) := by decide +kernel
theorem dX13_joins_56 : decode cX13_joins 56 = .ok (.iconst 0, 1) := by decide +kernel
theorem dX13_joins_57 : decode cX13_joins 57 = .ok (.invokevirtual 354, 3) := by decide +kernel
theorem dX13_joins_60 : decode cX13_joins 60 = .ok (.aload_n 0, 1) := by decide +kernel
theorem dX13_joins_61 : decode cX13_joins 61 = .ok (.getfield 150, 3) := by decide +kernel
theorem dX13_joins_64 : decode cX13_joins 64 = .ok (.aload_n 0, 1) := by decide +kernel
theorem dX13_joins_65 : decode cX13_joins 65 = .ok (.getfield 153, 3) := by decide +kernel
theorem dX13_joins_68 : decode cX13_joins 68 = .ok (.iaload, 1) := by decide +kernel
theorem dX13_joins_69 : decode cX13_joins 69 = .ok (.bipush 43, 2) := by decide +kernel
theorem dX13_joins_71 : decode cX13_joins 71 = .ok (.if_icmp .ne (-71), 3) := by decide +kernel
theorem dX13_joins_74 : decode cX13_joins 74 = .ok (.aload_n 0, 1) := by decide +kernel
theorem dX13_joins_75 : decode cX13_joins 75 = .ok (.dup, 1) := by decide +kernel
theorem dX13_joins_76 : decode cX13_joins 76 = .ok (.getfield 147, 3) := by decide +kernel
theorem dX13_joins_79 : decode cX13_joins 79 = .ok (.iconst 1, 1) := by decide +kernel
theorem dX13_joins_80 : decode cX13_joins 80 = .ok (.isub, 1) := by decide +kernel
theorem dX13_joins_81 : decode cX13_joins 81 = .ok (.putfield 147, 3) := by decide +kernel
theorem dX13_joins_84 : decode cX13_joins 84 = .ok (.goto (-84), 3) := by decide +kernel
theorem dX13_joins_87 : decode cX13_joins 87 = .ok (.return_, 1) := by decide +kernel
theorem dX13_holdsBack_0 : decode cX13_holdsBack 0 = .ok (.aload_n 0, 1) := by decide +kernel
theorem dX13_holdsBack_1 : decode cX13_holdsBack 1 = .ok (.getfield 150, 3) := by decide +kernel
theorem dX13_holdsBack_4 : decode cX13_holdsBack 4 = .ok (.aload_n 0, 1) := by decide +kernel
theorem dX13_holdsBack_5 : decode cX13_holdsBack 5 = .ok (.getfield 153, 3) := by decide +kernel
theorem dX13_holdsBack_8 : decode cX13_holdsBack 8 = .ok (.iload_n 1, 1) := by decide +kernel
theorem dX13_holdsBack_9 : decode cX13_holdsBack 9 = .ok (.iastore, 1) := by decide +kernel
theorem dX13_holdsBack_10 : decode cX13_holdsBack 10 = .ok (.aload_n 0, 1) := by decide +kernel
theorem dX13_holdsBack_11 : decode cX13_holdsBack 11 = .ok (.dup, 1) := by decide +kernel
theorem dX13_holdsBack_12 : decode cX13_holdsBack 12 = .ok (.getfield 153, 3) := by decide +kernel
theorem dX13_holdsBack_15 : decode cX13_holdsBack 15 = .ok (.iconst 1, 1) := by decide +kernel
theorem dX13_holdsBack_16 : decode cX13_holdsBack 16 = .ok (.iadd, 1) := by decide +kernel
theorem dX13_holdsBack_17 : decode cX13_holdsBack 17 = .ok (.putfield 153, 3) := by decide +kernel
theorem dX13_holdsBack_20 : decode cX13_holdsBack 20 = .ok (.return_, 1) := by decide +kernel
theorem dX13_pushes_0 : decode cX13_pushes 0 = .ok (.aload_n 0, 1) := by decide +kernel
theorem dX13_pushes_1 : decode cX13_pushes 1 = .ok (.getfield 128, 3) := by decide +kernel
theorem dX13_pushes_4 : decode cX13_pushes 4 = .ok (.aload_n 0, 1) := by decide +kernel
theorem dX13_pushes_5 : decode cX13_pushes 5 = .ok (.getfield 144, 3) := by decide +kernel
theorem dX13_pushes_8 : decode cX13_pushes 8 = .ok (.iload_n 1, 1) := by decide +kernel
theorem dX13_pushes_9 : decode cX13_pushes 9 = .ok (.iastore, 1) := by decide +kernel
theorem dX13_pushes_10 : decode cX13_pushes 10 = .ok (.aload_n 0, 1) := by decide +kernel
theorem dX13_pushes_11 : decode cX13_pushes 11 = .ok (.getfield 131, 3) := by decide +kernel
theorem dX13_pushes_14 : decode cX13_pushes 14 = .ok (.aload_n 0, 1) := by decide +kernel
theorem dX13_pushes_15 : decode cX13_pushes 15 = .ok (.getfield 144, 3) := by decide +kernel
theorem dX13_pushes_18 : decode cX13_pushes 18 = .ok (.iconst 0, 1) := by decide +kernel
theorem dX13_pushes_19 : decode cX13_pushes 19 = .ok (.iastore, 1) := by decide +kernel
theorem dX13_pushes_20 : decode cX13_pushes 20 = .ok (.aload_n 0, 1) := by decide +kernel
theorem dX13_pushes_21 : decode cX13_pushes 21 = .ok (.getfield 134, 3) := by decide +kernel
theorem dX13_pushes_24 : decode cX13_pushes 24 = .ok (.aload_n 0, 1) := by decide +kernel
theorem dX13_pushes_25 : decode cX13_pushes 25 = .ok (.getfield 144, 3) := by decide +kernel
theorem dX13_pushes_28 : decode cX13_pushes 28 = .ok (.iconst 1, 1) := by decide +kernel
theorem dX13_pushes_29 : decode cX13_pushes 29 = .ok (.bastore, 1) := by decide +kernel
theorem dX13_pushes_30 : decode cX13_pushes 30 = .ok (.aload_n 0, 1) := by decide +kernel
theorem dX13_pushes_31 : decode cX13_pushes 31 = .ok (.getfield 141, 3) := by decide +kernel
theorem dX13_pushes_34 : decode cX13_pushes 34 = .ok (.aload_n 0, 1) := by decide +kernel
theorem dX13_pushes_35 : decode cX13_pushes 35 = .ok (.getfield 144, 3) := by decide +kernel
theorem dX13_pushes_38 : decode cX13_pushes 38 = .ok (.aload_n 0, 1) := by decide +kernel
theorem dX13_pushes_39 : decode cX13_pushes 39 = .ok (.getfield 153, 3) := by decide +kernel
theorem dX13_pushes_42 : decode cX13_pushes 42 = .ok (.iastore, 1) := by decide +kernel
theorem dX13_pushes_43 : decode cX13_pushes 43 = .ok (.aload_n 0, 1) := by decide +kernel
theorem dX13_pushes_44 : decode cX13_pushes 44 = .ok (.dup, 1) := by decide +kernel
theorem dX13_pushes_45 : decode cX13_pushes 45 = .ok (.getfield 144, 3) := by decide +kernel
theorem dX13_pushes_48 : decode cX13_pushes 48 = .ok (.iconst 1, 1) := by decide +kernel
theorem dX13_pushes_49 : decode cX13_pushes 49 = .ok (.iadd, 1) := by decide +kernel
theorem dX13_pushes_50 : decode cX13_pushes 50 = .ok (.putfield 144, 3) := by decide +kernel
theorem dX13_pushes_53 : decode cX13_pushes 53 = .ok (.return_, 1) := by decide +kernel
theorem dX13_opens_0 : decode cX13_opens 0 = .ok (.aload_n 0, 1) := by decide +kernel
theorem dX13_opens_1 : decode cX13_opens 1 = .ok (.getfield 147, 3) := by decide +kernel
theorem dX13_opens_4 : decode cX13_opens 4 = .ok (.bipush 7, 2) := by decide +kernel
theorem dX13_opens_6 : decode cX13_opens 6 = .ok (.if_icmp .ne 12, 3) := by decide +kernel
theorem dX13_opens_9 : decode cX13_opens 9 = .ok (.aload_n 0, 1) := by decide +kernel
theorem dX13_opens_10 : decode cX13_opens 10 = .ok (.iconst 5, 1) := by decide +kernel
theorem dX13_opens_11 : decode cX13_opens 11 = .ok (.aload_n 0, 1) := by decide +kernel
theorem dX13_opens_12 : decode cX13_opens 12 = .ok (.getfield 23, 3) := by decide +kernel
theorem dX13_opens_15 : decode cX13_opens 15 = .ok (.invokevirtual 257, 3) := by decide +kernel
theorem dX13_opens_18 : decode cX13_opens 18 = .ok (.aload_n 0, 1) := by decide +kernel
theorem dX13_opens_19 : decode cX13_opens 19 = .ok (.getfield 36, 3) := by decide +kernel
theorem dX13_opens_22 : decode cX13_opens 22 = .ok (.ifCond .le 4, 3) := by decide +kernel
theorem dX13_opens_25 : decode cX13_opens 25 = .ok (.return_, 1) := by decide +kernel
theorem dX13_opens_26 : decode cX13_opens 26 = .ok (.aload_n 0, 1) := by decide +kernel
theorem dX13_opens_27 : decode cX13_opens 27 = .ok (.dup, 1) := by decide +kernel
theorem dX13_opens_28 : decode cX13_opens 28 = .ok (.getfield 147, 3) := by decide +kernel
theorem dX13_opens_31 : decode cX13_opens 31 = .ok (.iconst 1, 1) := by decide +kernel
theorem dX13_opens_32 : decode cX13_opens 32 = .ok (.iadd, 1) := by decide +kernel
theorem dX13_opens_33 : decode cX13_opens 33 = .ok (.putfield 147, 3) := by decide +kernel
theorem dX13_opens_36 : decode cX13_opens 36 = .ok (.aload_n 0, 1) := by decide +kernel
theorem dX13_opens_37 : decode cX13_opens 37 = .ok (.invokevirtual 274, 3) := by decide +kernel
theorem dX13_opens_40 : decode cX13_opens 40 = .ok (.aload_n 0, 1) := by decide +kernel
theorem dX13_opens_41 : decode cX13_opens 41 = .ok (.iload_n 1, 1) := by decide +kernel
theorem dX13_opens_42 : decode cX13_opens 42 = .ok (.invokevirtual 357, 3) := by decide +kernel
theorem dX13_opens_45 : decode cX13_opens 45 = .ok (.return_, 1) := by decide +kernel
theorem dX13_isTest_0 : decode cX13_isTest 0 = .ok (.iload_n 0, 1) := by decide +kernel
theorem dX13_isTest_1 : decode cX13_isTest 1 = .ok (.iconst 1, 1) := by decide +kernel
theorem dX13_isTest_2 : decode cX13_isTest 2 = .ok (.if_icmp .eq 14, 3) := by decide +kernel
theorem dX13_isTest_5 : decode cX13_isTest 5 = .ok (.iload_n 0, 1) := by decide +kernel
theorem dX13_isTest_6 : decode cX13_isTest 6 = .ok (.iconst 5, 1) := by decide +kernel
theorem dX13_isTest_7 : decode cX13_isTest 7 = .ok (.if_icmp .eq 9, 3) := by decide +kernel
theorem dX13_isTest_10 : decode cX13_isTest 10 = .ok (.iload_n 0, 1) := by decide +kernel
theorem dX13_isTest_11 : decode cX13_isTest 11 = .ok (.bipush 6, 2) := by decide +kernel
theorem dX13_isTest_13 : decode cX13_isTest 13 = .ok (.if_icmp .ne 7, 3) := by decide +kernel
theorem dX13_isTest_16 : decode cX13_isTest 16 = .ok (.iconst 1, 1) := by decide +kernel
theorem dX13_isTest_17 : decode cX13_isTest 17 = .ok (.goto 4, 3) := by decide +kernel
theorem dX13_isTest_20 : decode cX13_isTest 20 = .ok (.iconst 0, 1) := by decide +kernel
theorem dX13_isTest_21 : decode cX13_isTest 21 = .ok (.ireturn, 1) := by decide +kernel
theorem dX13_operand_0 : decode cX13_operand 0 = .ok (.aload_n 0, 1) := by decide +kernel
theorem dX13_operand_1 : decode cX13_operand 1 = .ok (.invokevirtual 268, 3) := by decide +kernel
theorem dX13_operand_4 : decode cX13_operand 4 = .ok (.aload_n 0, 1) := by decide +kernel
theorem dX13_operand_5 : decode cX13_operand 5 = .ok (.getfield 36, 3) := by decide +kernel
theorem dX13_operand_8 : decode cX13_operand 8 = .ok (.ifCond .le 5, 3) := by decide +kernel
theorem dX13_operand_11 : decode cX13_operand 11 = .ok (.iconst 1, 1) := by decide +kernel
theorem dX13_operand_12 : decode cX13_operand 12 = .ok (.ireturn, 1) := by decide +kernel
theorem dX13_operand_13 : decode cX13_operand 13 = .ok (.aload_n 0, 1) := by decide +kernel
theorem dX13_operand_14 : decode cX13_operand 14 = .ok (.getfield 144, 3) := by decide +kernel
theorem dX13_operand_17 : decode cX13_operand 17 = .ok (.iconst 1, 1) := by decide +kernel
theorem dX13_operand_18 : decode cX13_operand 18 = .ok (.isub, 1) := by decide +kernel
theorem dX13_operand_19 : decode cX13_operand 19 = .ok (.istore_n 1, 1) := by decide +kernel
theorem dX13_operand_20 : decode cX13_operand 20 = .ok (.aload_n 0, 1) := by decide +kernel
theorem dX13_operand_21 : decode cX13_operand 21 = .ok (.getfield 128, 3) := by decide +kernel
theorem dX13_operand_24 : decode cX13_operand 24 = .ok (.iload_n 1, 1) := by decide +kernel
theorem dX13_operand_25 : decode cX13_operand 25 = .ok (.iaload, 1) := by decide +kernel
theorem dX13_operand_26 : decode cX13_operand 26 = .ok (.invokestatic 360, 3) := by decide +kernel
theorem dX13_operand_29 : decode cX13_operand 29 = .ok (.ifCond .eq 16, 3) := by decide +kernel
theorem dX13_operand_32 : decode cX13_operand 32 = .ok (.aload_n 0, 1) := by decide +kernel
theorem dX13_operand_33 : decode cX13_operand 33 = .ok (.getfield 134, 3) := by decide +kernel
theorem dX13_operand_36 : decode cX13_operand 36 = .ok (.iload_n 1, 1) := by decide +kernel
theorem dX13_operand_37 : decode cX13_operand 37 = .ok (.baload, 1) := by decide +kernel
theorem dX13_operand_38 : decode cX13_operand 38 = .ok (.ifCond .eq 7, 3) := by decide +kernel
theorem dX13_operand_41 : decode cX13_operand 41 = .ok (.iconst 1, 1) := by decide +kernel
theorem dX13_operand_42 : decode cX13_operand 42 = .ok (.goto 4, 3) := by decide +kernel
theorem dX13_operand_45 : decode cX13_operand 45 = .ok (.iconst 0, 1) := by decide +kernel
theorem dX13_operand_46 : decode cX13_operand 46 = .ok (.istore_n 2, 1) := by decide +kernel
theorem dX13_operand_47 : decode cX13_operand 47 = .ok (.iload_n 2, 1) := by decide +kernel
theorem dX13_operand_48 : decode cX13_operand 48 = .ok (.ifCond .eq 62, 3) := by decide +kernel
theorem dX13_operand_51 : decode cX13_operand 51 = .ok (.aload_n 0, 1) := by decide +kernel
theorem dX13_operand_52 : decode cX13_operand 52 = .ok (.ldc2_w 331, 3) := by decide +kernel
theorem dX13_operand_55 : decode cX13_operand 55 = .ok (.invokevirtual 363, 3) := by decide +kernel
theorem dX13_operand_58 : decode cX13_operand 58 = .ok (.ifCond .eq 52, 3) := by decide +kernel
theorem dX13_operand_61 : decode cX13_operand 61 = .ok (.aload_n 0, 1) := by decide +kernel
theorem dX13_operand_62 : decode cX13_operand 62 = .ok (.getfield 147, 3) := by decide +kernel
theorem dX13_operand_65 : decode cX13_operand 65 = .ok (.bipush 7, 2) := by decide +kernel
theorem dX13_operand_67 : decode cX13_operand 67 = .ok (.if_icmp .ne 12, 3) := by decide +kernel
theorem dX13_operand_70 : decode cX13_operand 70 = .ok (.aload_n 0, 1) := by decide +kernel
theorem dX13_operand_71 : decode cX13_operand 71 = .ok (.iconst 5, 1) := by decide +kernel
theorem dX13_operand_72 : decode cX13_operand 72 = .ok (.aload_n 0, 1) := by decide +kernel
theorem dX13_operand_73 : decode cX13_operand 73 = .ok (.getfield 23, 3) := by decide +kernel
theorem dX13_operand_76 : decode cX13_operand 76 = .ok (.invokevirtual 257, 3) := by decide +kernel
theorem dX13_operand_79 : decode cX13_operand 79 = .ok (.aload_n 0, 1) := by decide +kernel
theorem dX13_operand_80 : decode cX13_operand 80 = .ok (.getfield 36, 3) := by decide +kernel
theorem dX13_operand_83 : decode cX13_operand 83 = .ok (.ifCond .le 5, 3) := by decide +kernel
theorem dX13_operand_86 : decode cX13_operand 86 = .ok (.iconst 1, 1) := by decide +kernel
theorem dX13_operand_87 : decode cX13_operand 87 = .ok (.ireturn, 1) := by decide +kernel
theorem dX13_operand_88 : decode cX13_operand 88 = .ok (.aload_n 0, 1) := by decide +kernel
theorem dX13_operand_89 : decode cX13_operand 89 = .ok (.dup, 1) := by decide +kernel
theorem dX13_operand_90 : decode cX13_operand 90 = .ok (.getfield 147, 3) := by decide +kernel
theorem dX13_operand_93 : decode cX13_operand 93 = .ok (.iconst 1, 1) := by decide +kernel
theorem dX13_operand_94 : decode cX13_operand 94 = .ok (.iadd, 1) := by decide +kernel
theorem dX13_operand_95 : decode cX13_operand 95 = .ok (.putfield 147, 3) := by decide +kernel
theorem dX13_operand_98 : decode cX13_operand 98 = .ok (.aload_n 0, 1) := by decide +kernel
theorem dX13_operand_99 : decode cX13_operand 99 = .ok (.bipush 43, 2) := by decide +kernel
theorem dX13_operand_101 : decode cX13_operand 101 = .ok (.invokevirtual 367, 3) := by decide +kernel
theorem dX13_operand_104 : decode cX13_operand 104 = .ok (.aload_n 0, 1) := by decide +kernel
theorem dX13_operand_105 : decode cX13_operand 105 = .ok (.invokevirtual 274, 3) := by decide +kernel
theorem dX13_operand_108 : decode cX13_operand 108 = .ok (.iconst 0, 1) := by decide +kernel
theorem dX13_operand_109 : decode cX13_operand 109 = .ok (.ireturn, 1) := by decide +kernel
theorem dX13_operand_110 : decode cX13_operand 110 = .ok (.aload_n 0, 1) := by decide +kernel
theorem dX13_operand_111 : decode cX13_operand 111 = .ok (.getfield 134, 3) := by decide +kernel
theorem dX13_operand_114 : decode cX13_operand 114 = .ok (.iload_n 1, 1) := by decide +kernel
theorem dX13_operand_115 : decode cX13_operand 115 = .ok (.iconst 0, 1) := by decide +kernel
theorem dX13_operand_116 : decode cX13_operand 116 = .ok (.bastore, 1) := by decide +kernel
theorem dX13_operand_117 : decode cX13_operand 117 = .ok (.iload_n 2, 1) := by decide +kernel
theorem dX13_operand_118 : decode cX13_operand 118 = .ok (.ifCond .eq 19, 3) := by decide +kernel
theorem dX13_operand_121 : decode cX13_operand 121 = .ok (.aload_n 0, 1) := by decide +kernel
theorem dX13_operand_122 : decode cX13_operand 122 = .ok (.bipush 91, 2) := by decide +kernel
theorem dX13_operand_124 : decode cX13_operand 124 = .ok (.invokevirtual 271, 3) := by decide +kernel
theorem dX13_operand_127 : decode cX13_operand 127 = .ok (.ifCond .eq 10, 3) := by decide +kernel
theorem dX13_operand_130 : decode cX13_operand 130 = .ok (.aload_n 0, 1) := by decide +kernel
theorem dX13_operand_131 : decode cX13_operand 131 = .ok (.iconst 5, 1) := by decide +kernel
theorem dX13_operand_132 : decode cX13_operand 132 = .ok (.invokevirtual 370, 3) := by decide +kernel
theorem dX13_operand_135 : decode cX13_operand 135 = .ok (.iconst 0, 1) := by decide +kernel
theorem dX13_operand_136 : decode cX13_operand 136 = .ok (.ireturn, 1) := by decide +kernel
theorem dX13_operand_137 : decode cX13_operand 137 = .ok (.iload_n 2, 1) := by decide +kernel
theorem dX13_operand_138 : decode cX13_operand 138 = .ok (.ifCond .eq 33, 3) := by decide +kernel
theorem dX13_operand_141 : decode cX13_operand 141 = .ok (.aload_n 0, 1) := by decide +kernel
theorem dX13_operand_142 : decode cX13_operand 142 = .ok (.ldc2_w 333, 3) := by decide +kernel
theorem dX13_operand_145 : decode cX13_operand 145 = .ok (.invokevirtual 363, 3) := by decide +kernel
theorem dX13_operand_148 : decode cX13_operand 148 = .ok (.ifCond .eq 23, 3) := by decide +kernel
theorem dX13_operand_151 : decode cX13_operand 151 = .ok (.aload_n 0, 1) := by decide +kernel
theorem dX13_operand_152 : decode cX13_operand 152 = .ok (.bipush 30, 2) := by decide +kernel
theorem dX13_operand_154 : decode cX13_operand 154 = .ok (.iconst 0, 1) := by decide +kernel
theorem dX13_operand_155 : decode cX13_operand 155 = .ok (.invokevirtual 354, 3) := by decide +kernel
theorem dX13_operand_158 : decode cX13_operand 158 = .ok (.aload_n 0, 1) := by decide +kernel
theorem dX13_operand_159 : decode cX13_operand 159 = .ok (.getfield 131, 3) := by decide +kernel
theorem dX13_operand_162 : decode cX13_operand 162 = .ok (.iload_n 1, 1) := by decide +kernel
theorem dX13_operand_163 : decode cX13_operand 163 = .ok (.iconst 2, 1) := by decide +kernel
theorem dX13_operand_164 : decode cX13_operand 164 = .ok (.iastore, 1) := by decide +kernel
theorem dX13_operand_165 : decode cX13_operand 165 = .ok (.aload_n 0, 1) := by decide +kernel
theorem dX13_operand_166 : decode cX13_operand 166 = .ok (.invokevirtual 274, 3) := by decide +kernel
theorem dX13_operand_169 : decode cX13_operand 169 = .ok (.iconst 1, 1) := by decide +kernel
theorem dX13_operand_170 : decode cX13_operand 170 = .ok (.ireturn, 1) := by decide +kernel
theorem dX13_operand_171 : decode cX13_operand 171 = .ok (.aload_n 0, 1) := by decide +kernel
theorem dX13_operand_172 : decode cX13_operand 172 = .ok (.bipush 40, 2) := by decide +kernel
theorem dX13_operand_174 : decode cX13_operand 174 = .ok (.invokevirtual 271, 3) := by decide +kernel
theorem dX13_operand_177 : decode cX13_operand 177 = .ok (.ifCond .eq 10, 3) := by decide +kernel
theorem dX13_operand_180 : decode cX13_operand 180 = .ok (.aload_n 0, 1) := by decide +kernel
theorem dX13_operand_181 : decode cX13_operand 181 = .ok (.iconst 2, 1) := by decide +kernel
theorem dX13_operand_182 : decode cX13_operand 182 = .ok (.invokevirtual 370, 3) := by decide +kernel
theorem dX13_operand_185 : decode cX13_operand 185 = .ok (.iconst 0, 1) := by decide +kernel
theorem dX13_operand_186 : decode cX13_operand 186 = .ok (.ireturn, 1) := by decide +kernel
theorem dX13_operand_187 : decode cX13_operand 187 = .ok (.aload_n 0, 1) := by decide +kernel
theorem dX13_operand_188 : decode cX13_operand 188 = .ok (.ldc2_w 335, 3) := by decide +kernel
theorem dX13_operand_191 : decode cX13_operand 191 = .ok (.invokevirtual 363, 3) := by decide +kernel
theorem dX13_operand_194 : decode cX13_operand 194 = .ok (.ifCond .ne 23, 3) := by decide +kernel
theorem dX13_operand_197 : decode cX13_operand 197 = .ok (.aload_n 0, 1) := by decide +kernel
theorem dX13_operand_198 : decode cX13_operand 198 = .ok (.ldc2_w 337, 3) := by decide +kernel
theorem dX13_operand_201 : decode cX13_operand 201 = .ok (.invokevirtual 363, 3) := by decide +kernel
theorem dX13_operand_204 : decode cX13_operand 204 = .ok (.ifCond .ne 13, 3) := by decide +kernel
theorem dX13_operand_207 : decode cX13_operand 207 = .ok (.aload_n 0, 1) := by decide +kernel
theorem dX13_operand_208 : decode cX13_operand 208 = .ok (.ldc2_w 325, 3) := by decide +kernel
theorem dX13_operand_211 : decode cX13_operand 211 = .ok (.invokevirtual 363, 3) := by decide +kernel
theorem dX13_operand_214 : decode cX13_operand 214 = .ok (.ifCond .eq 99, 3) := by decide +kernel
theorem dX13_operand_217 : decode cX13_operand 217 = .ok (.aload_n 0, 1) := by decide +kernel
theorem dX13_operand_218 : decode cX13_operand 218 = .ok (.ldc2_w 335, 3) := by decide +kernel
theorem dX13_operand_221 : decode cX13_operand 221 = .ok (.invokevirtual 363, 3) := by decide +kernel
theorem dX13_operand_224 : decode cX13_operand 224 = .ok (.ifCond .eq 8, 3) := by decide +kernel
theorem dX13_operand_227 : decode cX13_operand 227 = .ok (.bipush 36, 2) := by decide +kernel
theorem dX13_operand_229 : decode cX13_operand 229 = .ok (.goto 20, 3) := by decide +kernel
theorem dX13_operand_232 : decode cX13_operand 232 = .ok (.aload_n 0, 1) := by decide +kernel
theorem dX13_operand_233 : decode cX13_operand 233 = .ok (.ldc2_w 337, 3) := by decide +kernel
theorem dX13_operand_236 : decode cX13_operand 236 = .ok (.invokevirtual 363, 3) := by decide +kernel
theorem dX13_operand_239 : decode cX13_operand 239 = .ok (.ifCond .eq 8, 3) := by decide +kernel
theorem dX13_operand_242 : decode cX13_operand 242 = .ok (.bipush 37, 2) := by decide +kernel
theorem dX13_operand_244 : decode cX13_operand 244 = .ok (.goto 5, 3) := by decide +kernel
theorem dX13_operand_247 : decode cX13_operand 247 = .ok (.bipush 44, 2) := by decide +kernel
theorem dX13_operand_249 : decode cX13_operand 249 = .ok (.istore_n 3, 1) := by decide +kernel
theorem dX13_operand_250 : decode cX13_operand 250 = .ok (.aload_n 0, 1) := by decide +kernel
theorem dX13_operand_251 : decode cX13_operand 251 = .ok (.invokevirtual 274, 3) := by decide +kernel
theorem dX13_operand_254 : decode cX13_operand 254 = .ok (.aload_n 0, 1) := by decide +kernel
theorem dX13_operand_255 : decode cX13_operand 255 = .ok (.invokevirtual 268, 3) := by decide +kernel
theorem dX13_operand_258 : decode cX13_operand 258 = .ok (.aload_n 0, 1) := by decide +kernel
theorem dX13_operand_259 : decode cX13_operand 259 = .ok (.bipush 40, 2) := by decide +kernel
theorem dX13_operand_261 : decode cX13_operand 261 = .ok (.invokevirtual 271, 3) := by decide +kernel
theorem dX13_operand_264 : decode cX13_operand 264 = .ok (.ifCond .ne 12, 3) := by decide +kernel
theorem dX13_operand_267 : decode cX13_operand 267 = .ok (.aload_n 0, 1) := by decide +kernel
theorem dX13_operand_268 : decode cX13_operand 268 = .ok (.iconst 1, 1) := by decide +kernel
theorem dX13_operand_269 : decode cX13_operand 269 = .ok (.aload_n 0, 1) := by decide +kernel
theorem dX13_operand_270 : decode cX13_operand 270 = .ok (.getfield 23, 3) := by decide +kernel
theorem dX13_operand_273 : decode cX13_operand 273 = .ok (.invokevirtual 257, 3) := by decide +kernel
theorem dX13_operand_276 : decode cX13_operand 276 = .ok (.aload_n 0, 1) := by decide +kernel
theorem dX13_operand_277 : decode cX13_operand 277 = .ok (.iload_n 3, 1) := by decide +kernel
theorem dX13_operand_278 : decode cX13_operand 278 = .ok (.bipush 44, 2) := by decide +kernel
theorem dX13_operand_280 : decode cX13_operand 280 = .ok (.if_icmp .ne 8, 3) := by decide +kernel
theorem dX13_operand_283 : decode cX13_operand 283 = .ok (.bipush 6, 2) := by decide +kernel
theorem dX13_operand_285 : decode cX13_operand 285 = .ok (.goto 4, 3) := by decide +kernel
theorem dX13_operand_288 : decode cX13_operand 288 = .ok (.iconst 3, 1) := by decide +kernel
theorem dX13_operand_289 : decode cX13_operand 289 = .ok (.invokevirtual 370, 3) := by decide +kernel
theorem dX13_operand_292 : decode cX13_operand 292 = .ok (.aload_n 0, 1) := by decide +kernel
theorem dX13_operand_293 : decode cX13_operand 293 = .ok (.getfield 36, 3) := by decide +kernel
theorem dX13_operand_296 : decode cX13_operand 296 = .ok (.ifCond .ne 15, 3) := by decide +kernel
theorem dX13_operand_299 : decode cX13_operand 299 = .ok (.aload_n 0, 1) := by decide +kernel
theorem dX13_operand_300 : decode cX13_operand 300 = .ok (.getfield 138, 3) := by decide +kernel
theorem dX13_operand_303 : decode cX13_operand 303 = .ok (.aload_n 0, 1) := by decide +kernel
theorem dX13_operand_304 : decode cX13_operand 304 = .ok (.getfield 144, 3) := by decide +kernel
theorem dX13_operand_307 : decode cX13_operand 307 = .ok (.iconst 1, 1) := by decide +kernel
theorem dX13_operand_308 : decode cX13_operand 308 = .ok (.isub, 1) := by decide +kernel
theorem dX13_operand_309 : decode cX13_operand 309 = .ok (.iload_n 3, 1) := by decide +kernel
theorem dX13_operand_310 : decode cX13_operand 310 = .ok (.iastore, 1) := by decide +kernel
theorem dX13_operand_311 : decode cX13_operand 311 = .ok (.iconst 0, 1) := by decide +kernel
theorem dX13_operand_312 : decode cX13_operand 312 = .ok (.ireturn, 1) := by decide +kernel
theorem dX13_operand_313 : decode cX13_operand 313 = .ok (.aload_n 0, 1) := by decide +kernel
theorem dX13_operand_314 : decode cX13_operand 314 = .ok (.getfield 20, 3) := by decide +kernel
theorem dX13_operand_317 : decode cX13_operand 317 = .ok (.iconst 2, 1) := by decide +kernel
theorem dX13_operand_318 : decode cX13_operand 318 = .ok (.if_icmp .ne 7, 3) := by decide +kernel
theorem dX13_operand_321 : decode cX13_operand 321 = .ok (.iconst 0, 1) := by decide +kernel
theorem dX13_operand_322 : decode cX13_operand 322 = .ok (.goto 119, 3) := by decide +kernel
theorem dX13_operand_325 : decode cX13_operand 325 = .ok (.aload_n 0, 1) := by decide +kernel
theorem dX13_operand_326 : decode cX13_operand 326 = .ok (.ldc2_w 279, 3) := by decide +kernel
theorem dX13_operand_329 : decode cX13_operand 329 = .ok (.invokevirtual 363, 3) := by decide +kernel
theorem dX13_operand_332 : decode cX13_operand 332 = .ok (.ifCond .eq 7, 3) := by decide +kernel
theorem dX13_operand_335 : decode cX13_operand 335 = .ok (.iconst 1, 1) := by decide +kernel
theorem dX13_operand_336 : decode cX13_operand 336 = .ok (.goto 105, 3) := by decide +kernel
theorem dX13_operand_339 : decode cX13_operand 339 = .ok (.aload_n 0, 1) := by decide +kernel
theorem dX13_operand_340 : decode cX13_operand 340 = .ok (.ldc2_w 281, 3) := by decide +kernel
theorem dX13_operand_343 : decode cX13_operand 343 = .ok (.invokevirtual 363, 3) := by decide +kernel
theorem dX13_operand_346 : decode cX13_operand 346 = .ok (.ifCond .eq 7, 3) := by decide +kernel
theorem dX13_operand_349 : decode cX13_operand 349 = .ok (.iconst 2, 1) := by decide +kernel
theorem dX13_operand_350 : decode cX13_operand 350 = .ok (.goto 91, 3) := by decide +kernel
theorem dX13_operand_353 : decode cX13_operand 353 = .ok (.aload_n 0, 1) := by decide +kernel
theorem dX13_operand_354 : decode cX13_operand 354 = .ok (.ldc2_w 313, 3) := by decide +kernel
theorem dX13_operand_357 : decode cX13_operand 357 = .ok (.invokevirtual 363, 3) := by decide +kernel
theorem dX13_operand_360 : decode cX13_operand 360 = .ok (.ifCond .eq 7, 3) := by decide +kernel
theorem dX13_operand_363 : decode cX13_operand 363 = .ok (.iconst 3, 1) := by decide +kernel
theorem dX13_operand_364 : decode cX13_operand 364 = .ok (.goto 77, 3) := by decide +kernel
theorem dX13_operand_367 : decode cX13_operand 367 = .ok (.aload_n 0, 1) := by decide +kernel
theorem dX13_operand_368 : decode cX13_operand 368 = .ok (.ldc2_w 315, 3) := by decide +kernel
theorem dX13_operand_371 : decode cX13_operand 371 = .ok (.invokevirtual 363, 3) := by decide +kernel
theorem dX13_operand_374 : decode cX13_operand 374 = .ok (.ifCond .eq 7, 3) := by decide +kernel
theorem dX13_operand_377 : decode cX13_operand 377 = .ok (.iconst 4, 1) := by decide +kernel
theorem dX13_operand_378 : decode cX13_operand 378 = .ok (.goto 63, 3) := by decide +kernel
theorem dX13_operand_381 : decode cX13_operand 381 = .ok (.aload_n 0, 1) := by decide +kernel
theorem dX13_operand_382 : decode cX13_operand 382 = .ok (.ldc2_w 317, 3) := by decide +kernel
theorem dX13_operand_385 : decode cX13_operand 385 = .ok (.invokevirtual 363, 3) := by decide +kernel
theorem dX13_operand_388 : decode cX13_operand 388 = .ok (.ifCond .eq 7, 3) := by decide +kernel
theorem dX13_operand_391 : decode cX13_operand 391 = .ok (.iconst 5, 1) := by decide +kernel
theorem dX13_operand_392 : decode cX13_operand 392 = .ok (.goto 49, 3) := by decide +kernel
theorem dX13_operand_395 : decode cX13_operand 395 = .ok (.aload_n 0, 1) := by decide +kernel
theorem dX13_operand_396 : decode cX13_operand 396 = .ok (.ldc2_w 319, 3) := by decide +kernel
theorem dX13_operand_399 : decode cX13_operand 399 = .ok (.invokevirtual 363, 3) := by decide +kernel
theorem dX13_operand_402 : decode cX13_operand 402 = .ok (.ifCond .eq 8, 3) := by decide +kernel
theorem dX13_operand_405 : decode cX13_operand 405 = .ok (.bipush 6, 2) := by decide +kernel
theorem dX13_operand_407 : decode cX13_operand 407 = .ok (.goto 34, 3) := by decide +kernel
theorem dX13_operand_410 : decode cX13_operand 410 = .ok (.aload_n 0, 1) := by decide +kernel
theorem dX13_operand_411 : decode cX13_operand 411 = .ok (.ldc2_w 321, 3) := by decide +kernel
theorem dX13_operand_414 : decode cX13_operand 414 = .ok (.invokevirtual 363, 3) := by decide +kernel
theorem dX13_operand_417 : decode cX13_operand 417 = .ok (.ifCond .eq 8, 3) := by decide +kernel
theorem dX13_operand_420 : decode cX13_operand 420 = .ok (.bipush 7, 2) := by decide +kernel
theorem dX13_operand_422 : decode cX13_operand 422 = .ok (.goto 19, 3) := by decide +kernel
theorem dX13_operand_425 : decode cX13_operand 425 = .ok (.aload_n 0, 1) := by decide +kernel
theorem dX13_operand_426 : decode cX13_operand 426 = .ok (.ldc2_w 323, 3) := by decide +kernel
theorem dX13_operand_429 : decode cX13_operand 429 = .ok (.invokevirtual 363, 3) := by decide +kernel
theorem dX13_operand_432 : decode cX13_operand 432 = .ok (.ifCond .eq 8, 3) := by decide +kernel
theorem dX13_operand_435 : decode cX13_operand 435 = .ok (.bipush 8, 2) := by decide +kernel
theorem dX13_operand_437 : decode cX13_operand 437 = .ok (.goto 4, 3) := by decide +kernel
theorem dX13_operand_440 : decode cX13_operand 440 = .ok (.iconst (-1), 1) := by decide +kernel
theorem dX13_operand_441 : decode cX13_operand 441 = .ok (.istore_n 3, 1) := by decide +kernel
theorem dX13_operand_442 : decode cX13_operand 442 = .ok (.iload_n 3, 1) := by decide +kernel
theorem dX13_operand_443 : decode cX13_operand 443 = .ok (.iconst 5, 1) := by decide +kernel
theorem dX13_operand_444 : decode cX13_operand 444 = .ok (.if_icmp .le 12, 3) := by decide +kernel
theorem dX13_operand_447 : decode cX13_operand 447 = .ok (.aload_n 0, 1) := by decide +kernel
theorem dX13_operand_448 : decode cX13_operand 448 = .ok (.getfield 124, 3) := by decide +kernel
theorem dX13_operand_451 : decode cX13_operand 451 = .ok (.ifCond .ne 5, 3) := by decide +kernel
theorem dX13_operand_454 : decode cX13_operand 454 = .ok (.iconst (-1), 1) := by decide +kernel
theorem dX13_operand_455 : decode cX13_operand 455 = .ok (.istore_n 3, 1) := by decide +kernel
theorem dX13_operand_456 : decode cX13_operand 456 = .ok (.iload_n 3, 1) := by decide +kernel
theorem dX13_operand_457 : decode cX13_operand 457 = .ok (.iconst (-1), 1) := by decide +kernel
theorem dX13_operand_458 : decode cX13_operand 458 = .ok (.if_icmp .ne 12, 3) := by decide +kernel
theorem dX13_operand_461 : decode cX13_operand 461 = .ok (.aload_n 0, 1) := by decide +kernel
theorem dX13_operand_462 : decode cX13_operand 462 = .ok (.iconst 1, 1) := by decide +kernel
theorem dX13_operand_463 : decode cX13_operand 463 = .ok (.aload_n 0, 1) := by decide +kernel
theorem dX13_operand_464 : decode cX13_operand 464 = .ok (.getfield 23, 3) := by decide +kernel
theorem dX13_operand_467 : decode cX13_operand 467 = .ok (.invokevirtual 257, 3) := by decide +kernel
theorem dX13_operand_470 : decode cX13_operand 470 = .ok (.aload_n 0, 1) := by decide +kernel
theorem dX13_operand_471 : decode cX13_operand 471 = .ok (.getfield 36, 3) := by decide +kernel
theorem dX13_operand_474 : decode cX13_operand 474 = .ok (.ifCond .le 5, 3) := by decide +kernel
theorem dX13_operand_477 : decode cX13_operand 477 = .ok (.iconst 1, 1) := by decide +kernel
theorem dX13_operand_478 : decode cX13_operand 478 = .ok (.ireturn, 1) := by decide +kernel
theorem dX13_operand_479 : decode cX13_operand 479 = .ok (.aload_n 0, 1) := by decide +kernel
theorem dX13_operand_480 : decode cX13_operand 480 = .ok (.iload_n 3, 1) := by decide +kernel
theorem dX13_operand_481 : decode cX13_operand 481 = .ok (.aload_n 0, 1) := by decide +kernel
theorem dX13_operand_482 : decode cX13_operand 482 = .ok (.getfield 29, 3) := by decide +kernel
theorem dX13_operand_485 : decode cX13_operand 485 = .ok (.invokevirtual 354, 3) := by decide +kernel
theorem dX13_operand_488 : decode cX13_operand 488 = .ok (.aload_n 0, 1) := by decide +kernel
theorem dX13_operand_489 : decode cX13_operand 489 = .ok (.invokevirtual 274, 3) := by decide +kernel
theorem dX13_operand_492 : decode cX13_operand 492 = .ok (.iconst 1, 1) := by decide +kernel
theorem dX13_operand_493 : decode cX13_operand 493 = .ok (.ireturn, 1) := by decide +kernel
theorem dX13_goesOn_0 : decode cX13_goesOn 0 = .ok (.aload_n 0, 1) := by decide +kernel
theorem dX13_goesOn_1 : decode cX13_goesOn 1 = .ok (.invokevirtual 268, 3) := by decide +kernel
theorem dX13_goesOn_4 : decode cX13_goesOn 4 = .ok (.aload_n 0, 1) := by decide +kernel
theorem dX13_goesOn_5 : decode cX13_goesOn 5 = .ok (.getfield 36, 3) := by decide +kernel
theorem dX13_goesOn_8 : decode cX13_goesOn 8 = .ok (.ifCond .le 5, 3) := by decide +kernel
theorem dX13_goesOn_11 : decode cX13_goesOn 11 = .ok (.iconst 0, 1) := by decide +kernel
theorem dX13_goesOn_12 : decode cX13_goesOn 12 = .ok (.ireturn, 1) := by decide +kernel
theorem dX13_goesOn_13 : decode cX13_goesOn 13 = .ok (.aload_n 0, 1) := by decide +kernel
theorem dX13_goesOn_14 : decode cX13_goesOn 14 = .ok (.getfield 144, 3) := by decide +kernel
theorem dX13_goesOn_17 : decode cX13_goesOn 17 = .ok (.iconst 1, 1) := by decide +kernel
theorem dX13_goesOn_18 : decode cX13_goesOn 18 = .ok (.isub, 1) := by decide +kernel
theorem dX13_goesOn_19 : decode cX13_goesOn 19 = .ok (.istore_n 1, 1) := by decide +kernel
theorem dX13_goesOn_20 : decode cX13_goesOn 20 = .ok (.aload_n 0, 1) := by decide +kernel
theorem dX13_goesOn_21 : decode cX13_goesOn 21 = .ok (.getfield 128, 3) := by decide +kernel
theorem dX13_goesOn_24 : decode cX13_goesOn 24 = .ok (.iload_n 1, 1) := by decide +kernel
theorem dX13_goesOn_25 : decode cX13_goesOn 25 = .ok (.iaload, 1) := by decide +kernel
theorem dX13_goesOn_26 : decode cX13_goesOn 26 = .ok (.istore_n 2, 1) := by decide +kernel
theorem dX13_goesOn_27 : decode cX13_goesOn 27 = .ok (.iload_n 2, 1) := by decide +kernel
theorem dX13_goesOn_28 : decode cX13_goesOn 28 = .ok (.invokestatic 360, 3) := by decide +kernel
theorem dX13_goesOn_31 : decode cX13_goesOn 31 = .ok (.istore_n 3, 1) := by decide +kernel
theorem dX13_goesOn_32 : decode cX13_goesOn 32 = .ok (.aload_n 0, 1) := by decide +kernel
theorem dX13_goesOn_33 : decode cX13_goesOn 33 = .ok (.getfield 131, 3) := by decide +kernel
theorem dX13_goesOn_36 : decode cX13_goesOn 36 = .ok (.iload_n 1, 1) := by decide +kernel
theorem dX13_goesOn_37 : decode cX13_goesOn 37 = .ok (.iaload, 1) := by decide +kernel
theorem dX13_goesOn_38 : decode cX13_goesOn 38 = .ok (.iconst 2, 1) := by decide +kernel
theorem dX13_goesOn_39 : decode cX13_goesOn 39 = .ok (.if_icmp .ge 149, 3) := by decide +kernel
theorem dX13_goesOn_42 : decode cX13_goesOn 42 = .ok (.aload_n 0, 1) := by decide +kernel
theorem dX13_goesOn_43 : decode cX13_goesOn 43 = .ok (.bipush 43, 2) := by decide +kernel
theorem dX13_goesOn_45 : decode cX13_goesOn 45 = .ok (.invokevirtual 271, 3) := by decide +kernel
theorem dX13_goesOn_48 : decode cX13_goesOn 48 = .ok (.ifCond .ne 39, 3) := by decide +kernel
theorem dX13_goesOn_51 : decode cX13_goesOn 51 = .ok (.aload_n 0, 1) := by decide +kernel
theorem dX13_goesOn_52 : decode cX13_goesOn 52 = .ok (.bipush 45, 2) := by decide +kernel
theorem dX13_goesOn_54 : decode cX13_goesOn 54 = .ok (.invokevirtual 271, 3) := by decide +kernel
theorem dX13_goesOn_57 : decode cX13_goesOn 57 = .ok (.ifCond .ne 30, 3) := by decide +kernel
theorem dX13_goesOn_60 : decode cX13_goesOn 60 = .ok (.aload_n 0, 1) := by decide +kernel
theorem dX13_goesOn_61 : decode cX13_goesOn 61 = .ok (.bipush 42, 2) := by decide +kernel
theorem dX13_goesOn_63 : decode cX13_goesOn 63 = .ok (.invokevirtual 271, 3) := by decide +kernel
theorem dX13_goesOn_66 : decode cX13_goesOn 66 = .ok (.ifCond .ne 21, 3) := by decide +kernel
theorem dX13_goesOn_69 : decode cX13_goesOn 69 = .ok (.aload_n 0, 1) := by decide +kernel
theorem dX13_goesOn_70 : decode cX13_goesOn 70 = .ok (.bipush 47, 2) := by decide +kernel
theorem dX13_goesOn_72 : decode cX13_goesOn 72 = .ok (.invokevirtual 271, 3) := by decide +kernel
theorem dX13_goesOn_75 : decode cX13_goesOn 75 = .ok (.ifCond .ne 12, 3) := by decide +kernel
theorem dX13_goesOn_78 : decode cX13_goesOn 78 = .ok (.aload_n 0, 1) := by decide +kernel
theorem dX13_goesOn_79 : decode cX13_goesOn 79 = .ok (.bipush 37, 2) := by decide +kernel
theorem dX13_goesOn_81 : decode cX13_goesOn 81 = .ok (.invokevirtual 271, 3) := by decide +kernel
theorem dX13_goesOn_84 : decode cX13_goesOn 84 = .ok (.ifCond .eq 104, 3) := by decide +kernel
theorem dX13_goesOn_87 : decode cX13_goesOn 87 = .ok (.aload_n 0, 1) := by decide +kernel
theorem dX13_goesOn_88 : decode cX13_goesOn 88 = .ok (.aload_n 0, 1) := by decide +kernel
theorem dX13_goesOn_89 : decode cX13_goesOn 89 = .ok (.bipush 43, 2) := by decide +kernel
theorem dX13_goesOn_91 : decode cX13_goesOn 91 = .ok (.invokevirtual 271, 3) := by decide +kernel
theorem dX13_goesOn_94 : decode cX13_goesOn 94 = .ok (.ifCond .ne 12, 3) := by decide +kernel
theorem dX13_goesOn_97 : decode cX13_goesOn 97 = .ok (.aload_n 0, 1) := by decide +kernel
theorem dX13_goesOn_98 : decode cX13_goesOn 98 = .ok (.bipush 45, 2) := by decide +kernel
theorem dX13_goesOn_100 : decode cX13_goesOn 100 = .ok (.invokevirtual 271, 3) := by decide +kernel
theorem dX13_goesOn_103 : decode cX13_goesOn 103 = .ok (.ifCond .eq 7, 3) := by decide +kernel
theorem dX13_goesOn_106 : decode cX13_goesOn 106 = .ok (.iconst 5, 1) := by decide +kernel
theorem dX13_goesOn_107 : decode cX13_goesOn 107 = .ok (.goto 5, 3) := by decide +kernel
theorem dX13_goesOn_110 : decode cX13_goesOn 110 = .ok (.bipush 6, 2) := by decide +kernel
theorem dX13_goesOn_112 : decode cX13_goesOn 112 = .ok (.invokevirtual 373, 3) := by decide +kernel
theorem dX13_goesOn_115 : decode cX13_goesOn 115 = .ok (.aload_n 0, 1) := by decide +kernel
theorem dX13_goesOn_116 : decode cX13_goesOn 116 = .ok (.aload_n 0, 1) := by decide +kernel
theorem dX13_goesOn_117 : decode cX13_goesOn 117 = .ok (.bipush 43, 2) := by decide +kernel
theorem dX13_goesOn_119 : decode cX13_goesOn 119 = .ok (.invokevirtual 271, 3) := by decide +kernel
theorem dX13_goesOn_122 : decode cX13_goesOn 122 = .ok (.ifCond .eq 8, 3) := by decide +kernel
theorem dX13_goesOn_125 : decode cX13_goesOn 125 = .ok (.bipush 31, 2) := by decide +kernel
theorem dX13_goesOn_127 : decode cX13_goesOn 127 = .ok (.goto 47, 3) := by decide +kernel
theorem dX13_goesOn_130 : decode cX13_goesOn 130 = .ok (.aload_n 0, 1) := by decide +kernel
theorem dX13_goesOn_131 : decode cX13_goesOn 131 = .ok (.bipush 45, 2) := by decide +kernel
theorem dX13_goesOn_133 : decode cX13_goesOn 133 = .ok (.invokevirtual 271, 3) := by decide +kernel
theorem dX13_goesOn_136 : decode cX13_goesOn 136 = .ok (.ifCond .eq 8, 3) := by decide +kernel
theorem dX13_goesOn_139 : decode cX13_goesOn 139 = .ok (.bipush 32, 2) := by decide +kernel
theorem dX13_goesOn_141 : decode cX13_goesOn 141 = .ok (.goto 33, 3) := by decide +kernel
theorem dX13_goesOn_144 : decode cX13_goesOn 144 = .ok (.aload_n 0, 1) := by decide +kernel
theorem dX13_goesOn_145 : decode cX13_goesOn 145 = .ok (.bipush 42, 2) := by decide +kernel
theorem dX13_goesOn_147 : decode cX13_goesOn 147 = .ok (.invokevirtual 271, 3) := by decide +kernel
theorem dX13_goesOn_150 : decode cX13_goesOn 150 = .ok (.ifCond .eq 8, 3) := by decide +kernel
theorem dX13_goesOn_153 : decode cX13_goesOn 153 = .ok (.bipush 33, 2) := by decide +kernel
theorem dX13_goesOn_155 : decode cX13_goesOn 155 = .ok (.goto 19, 3) := by decide +kernel
theorem dX13_goesOn_158 : decode cX13_goesOn 158 = .ok (.aload_n 0, 1) := by decide +kernel
theorem dX13_goesOn_159 : decode cX13_goesOn 159 = .ok (.bipush 47, 2) := by decide +kernel
theorem dX13_goesOn_161 : decode cX13_goesOn 161 = .ok (.invokevirtual 271, 3) := by decide +kernel
theorem dX13_goesOn_164 : decode cX13_goesOn 164 = .ok (.ifCond .eq 8, 3) := by decide +kernel
theorem dX13_goesOn_167 : decode cX13_goesOn 167 = .ok (.bipush 34, 2) := by decide +kernel
theorem dX13_goesOn_169 : decode cX13_goesOn 169 = .ok (.goto 5, 3) := by decide +kernel
theorem dX13_goesOn_172 : decode cX13_goesOn 172 = .ok (.bipush 35, 2) := by decide +kernel
theorem dX13_goesOn_174 : decode cX13_goesOn 174 = .ok (.invokevirtual 367, 3) := by decide +kernel
theorem dX13_goesOn_177 : decode cX13_goesOn 177 = .ok (.aload_n 0, 1) := by decide +kernel
theorem dX13_goesOn_178 : decode cX13_goesOn 178 = .ok (.invokevirtual 274, 3) := by decide +kernel
theorem dX13_goesOn_181 : decode cX13_goesOn 181 = .ok (.aload_n 0, 1) := by decide +kernel
theorem dX13_goesOn_182 : decode cX13_goesOn 182 = .ok (.iconst 0, 1) := by decide +kernel
theorem dX13_goesOn_183 : decode cX13_goesOn 183 = .ok (.putfield 156, 3) := by decide +kernel
theorem dX13_goesOn_186 : decode cX13_goesOn 186 = .ok (.iconst 1, 1) := by decide +kernel
theorem dX13_goesOn_187 : decode cX13_goesOn 187 = .ok (.ireturn, 1) := by decide +kernel
theorem dX13_goesOn_188 : decode cX13_goesOn 188 = .ok (.iload_n 3, 1) := by decide +kernel
theorem dX13_goesOn_189 : decode cX13_goesOn 189 = .ok (.ifCond .eq 96, 3) := by decide +kernel
theorem dX13_goesOn_192 : decode cX13_goesOn 192 = .ok (.aload_n 0, 1) := by decide +kernel
theorem dX13_goesOn_193 : decode cX13_goesOn 193 = .ok (.getfield 131, 3) := by decide +kernel
theorem dX13_goesOn_196 : decode cX13_goesOn 196 = .ok (.iload_n 1, 1) := by decide +kernel
theorem dX13_goesOn_197 : decode cX13_goesOn 197 = .ok (.iaload, 1) := by decide +kernel
theorem dX13_goesOn_198 : decode cX13_goesOn 198 = .ok (.ifCond .ne 87, 3) := by decide +kernel
theorem dX13_goesOn_201 : decode cX13_goesOn 201 = .ok (.aload_n 0, 1) := by decide +kernel
theorem dX13_goesOn_202 : decode cX13_goesOn 202 = .ok (.bipush 60, 2) := by decide +kernel
theorem dX13_goesOn_204 : decode cX13_goesOn 204 = .ok (.invokevirtual 271, 3) := by decide +kernel
theorem dX13_goesOn_207 : decode cX13_goesOn 207 = .ok (.ifCond .ne 21, 3) := by decide +kernel
theorem dX13_goesOn_210 : decode cX13_goesOn 210 = .ok (.aload_n 0, 1) := by decide +kernel
theorem dX13_goesOn_211 : decode cX13_goesOn 211 = .ok (.bipush 62, 2) := by decide +kernel
theorem dX13_goesOn_213 : decode cX13_goesOn 213 = .ok (.invokevirtual 271, 3) := by decide +kernel
theorem dX13_goesOn_216 : decode cX13_goesOn 216 = .ok (.ifCond .ne 12, 3) := by decide +kernel
theorem dX13_goesOn_219 : decode cX13_goesOn 219 = .ok (.aload_n 0, 1) := by decide +kernel
theorem dX13_goesOn_220 : decode cX13_goesOn 220 = .ok (.bipush 61, 2) := by decide +kernel
theorem dX13_goesOn_222 : decode cX13_goesOn 222 = .ok (.invokevirtual 271, 3) := by decide +kernel
theorem dX13_goesOn_225 : decode cX13_goesOn 225 = .ok (.ifCond .eq 60, 3) := by decide +kernel
theorem dX13_goesOn_228 : decode cX13_goesOn 228 = .ok (.aload_n 0, 1) := by decide +kernel
theorem dX13_goesOn_229 : decode cX13_goesOn 229 = .ok (.iconst 5, 1) := by decide +kernel
theorem dX13_goesOn_230 : decode cX13_goesOn 230 = .ok (.invokevirtual 373, 3) := by decide +kernel
theorem dX13_goesOn_233 : decode cX13_goesOn 233 = .ok (.aload_n 0, 1) := by decide +kernel
theorem dX13_goesOn_234 : decode cX13_goesOn 234 = .ok (.aload_n 0, 1) := by decide +kernel
theorem dX13_goesOn_235 : decode cX13_goesOn 235 = .ok (.bipush 60, 2) := by decide +kernel
theorem dX13_goesOn_237 : decode cX13_goesOn 237 = .ok (.invokevirtual 271, 3) := by decide +kernel
theorem dX13_goesOn_240 : decode cX13_goesOn 240 = .ok (.ifCond .eq 8, 3) := by decide +kernel
theorem dX13_goesOn_243 : decode cX13_goesOn 243 = .ok (.bipush 38, 2) := by decide +kernel
theorem dX13_goesOn_245 : decode cX13_goesOn 245 = .ok (.goto 19, 3) := by decide +kernel
theorem dX13_goesOn_248 : decode cX13_goesOn 248 = .ok (.aload_n 0, 1) := by decide +kernel
theorem dX13_goesOn_249 : decode cX13_goesOn 249 = .ok (.bipush 62, 2) := by decide +kernel
theorem dX13_goesOn_251 : decode cX13_goesOn 251 = .ok (.invokevirtual 271, 3) := by decide +kernel
theorem dX13_goesOn_254 : decode cX13_goesOn 254 = .ok (.ifCond .eq 8, 3) := by decide +kernel
theorem dX13_goesOn_257 : decode cX13_goesOn 257 = .ok (.bipush 39, 2) := by decide +kernel
theorem dX13_goesOn_259 : decode cX13_goesOn 259 = .ok (.goto 5, 3) := by decide +kernel
theorem dX13_goesOn_262 : decode cX13_goesOn 262 = .ok (.bipush 40, 2) := by decide +kernel
theorem dX13_goesOn_264 : decode cX13_goesOn 264 = .ok (.invokevirtual 367, 3) := by decide +kernel
theorem dX13_goesOn_267 : decode cX13_goesOn 267 = .ok (.aload_n 0, 1) := by decide +kernel
theorem dX13_goesOn_268 : decode cX13_goesOn 268 = .ok (.getfield 131, 3) := by decide +kernel
theorem dX13_goesOn_271 : decode cX13_goesOn 271 = .ok (.iload_n 1, 1) := by decide +kernel
theorem dX13_goesOn_272 : decode cX13_goesOn 272 = .ok (.iconst 1, 1) := by decide +kernel
theorem dX13_goesOn_273 : decode cX13_goesOn 273 = .ok (.iastore, 1) := by decide +kernel
theorem dX13_goesOn_274 : decode cX13_goesOn 274 = .ok (.aload_n 0, 1) := by decide +kernel
theorem dX13_goesOn_275 : decode cX13_goesOn 275 = .ok (.invokevirtual 274, 3) := by decide +kernel
theorem dX13_goesOn_278 : decode cX13_goesOn 278 = .ok (.aload_n 0, 1) := by decide +kernel
theorem dX13_goesOn_279 : decode cX13_goesOn 279 = .ok (.iconst 0, 1) := by decide +kernel
theorem dX13_goesOn_280 : decode cX13_goesOn 280 = .ok (.putfield 156, 3) := by decide +kernel
theorem dX13_goesOn_283 : decode cX13_goesOn 283 = .ok (.iconst 1, 1) := by decide +kernel
theorem dX13_goesOn_284 : decode cX13_goesOn 284 = .ok (.ireturn, 1) := by decide +kernel
theorem dX13_goesOn_285 : decode cX13_goesOn 285 = .ok (.iload_n 3, 1) := by decide +kernel
theorem dX13_goesOn_286 : decode cX13_goesOn 286 = .ok (.ifCond .eq 114, 3) := by decide +kernel
theorem dX13_goesOn_289 : decode cX13_goesOn 289 = .ok (.aload_n 0, 1) := by decide +kernel
theorem dX13_goesOn_290 : decode cX13_goesOn 290 = .ok (.ldc2_w 329, 3) := by decide +kernel
theorem dX13_goesOn_293 : decode cX13_goesOn 293 = .ok (.invokevirtual 363, 3) := by decide +kernel
theorem dX13_goesOn_296 : decode cX13_goesOn 296 = .ok (.ifCond .ne 13, 3) := by decide +kernel
theorem dX13_goesOn_299 : decode cX13_goesOn 299 = .ok (.aload_n 0, 1) := by decide +kernel
theorem dX13_goesOn_300 : decode cX13_goesOn 300 = .ok (.ldc2_w 327, 3) := by decide +kernel
theorem dX13_goesOn_303 : decode cX13_goesOn 303 = .ok (.invokevirtual 363, 3) := by decide +kernel
theorem dX13_goesOn_306 : decode cX13_goesOn 306 = .ok (.ifCond .eq 94, 3) := by decide +kernel
theorem dX13_goesOn_309 : decode cX13_goesOn 309 = .ok (.aload_n 0, 1) := by decide +kernel
theorem dX13_goesOn_310 : decode cX13_goesOn 310 = .ok (.getfield 131, 3) := by decide +kernel
theorem dX13_goesOn_313 : decode cX13_goesOn 313 = .ok (.iload_n 1, 1) := by decide +kernel
theorem dX13_goesOn_314 : decode cX13_goesOn 314 = .ok (.iaload, 1) := by decide +kernel
theorem dX13_goesOn_315 : decode cX13_goesOn 315 = .ok (.ifCond .ne 12, 3) := by decide +kernel
theorem dX13_goesOn_318 : decode cX13_goesOn 318 = .ok (.aload_n 0, 1) := by decide +kernel
theorem dX13_goesOn_319 : decode cX13_goesOn 319 = .ok (.iconst 1, 1) := by decide +kernel
theorem dX13_goesOn_320 : decode cX13_goesOn 320 = .ok (.aload_n 0, 1) := by decide +kernel
theorem dX13_goesOn_321 : decode cX13_goesOn 321 = .ok (.getfield 23, 3) := by decide +kernel
theorem dX13_goesOn_324 : decode cX13_goesOn 324 = .ok (.invokevirtual 257, 3) := by decide +kernel
theorem dX13_goesOn_327 : decode cX13_goesOn 327 = .ok (.aload_n 0, 1) := by decide +kernel
theorem dX13_goesOn_328 : decode cX13_goesOn 328 = .ok (.getfield 36, 3) := by decide +kernel
theorem dX13_goesOn_331 : decode cX13_goesOn 331 = .ok (.ifCond .le 5, 3) := by decide +kernel
theorem dX13_goesOn_334 : decode cX13_goesOn 334 = .ok (.iconst 0, 1) := by decide +kernel
theorem dX13_goesOn_335 : decode cX13_goesOn 335 = .ok (.ireturn, 1) := by decide +kernel
theorem dX13_goesOn_336 : decode cX13_goesOn 336 = .ok (.aload_n 0, 1) := by decide +kernel
theorem dX13_goesOn_337 : decode cX13_goesOn 337 = .ok (.ldc2_w 329, 3) := by decide +kernel
theorem dX13_goesOn_340 : decode cX13_goesOn 340 = .ok (.invokevirtual 363, 3) := by decide +kernel
theorem dX13_goesOn_343 : decode cX13_goesOn 343 = .ok (.istore 4, 2) := by decide +kernel
theorem dX13_goesOn_345 : decode cX13_goesOn 345 = .ok (.aload_n 0, 1) := by decide +kernel
theorem dX13_goesOn_346 : decode cX13_goesOn 346 = .ok (.iload 4, 2) := by decide +kernel
theorem dX13_goesOn_348 : decode cX13_goesOn 348 = .ok (.ifCond .eq 7, 3) := by decide +kernel
theorem dX13_goesOn_351 : decode cX13_goesOn 351 = .ok (.iconst 2, 1) := by decide +kernel
theorem dX13_goesOn_352 : decode cX13_goesOn 352 = .ok (.goto 4, 3) := by decide +kernel
theorem dX13_goesOn_355 : decode cX13_goesOn 355 = .ok (.iconst 1, 1) := by decide +kernel
theorem dX13_goesOn_356 : decode cX13_goesOn 356 = .ok (.invokevirtual 373, 3) := by decide +kernel
theorem dX13_goesOn_359 : decode cX13_goesOn 359 = .ok (.aload_n 0, 1) := by decide +kernel
theorem dX13_goesOn_360 : decode cX13_goesOn 360 = .ok (.iload 4, 2) := by decide +kernel
theorem dX13_goesOn_362 : decode cX13_goesOn 362 = .ok (.ifCond .eq 8, 3) := by decide +kernel
theorem dX13_goesOn_365 : decode cX13_goesOn 365 = .ok (.bipush 41, 2) := by decide +kernel
theorem dX13_goesOn_367 : decode cX13_goesOn 367 = .ok (.goto 5, 3) := by decide +kernel
theorem dX13_goesOn_370 : decode cX13_goesOn 370 = .ok (.bipush 42, 2) := by decide +kernel
theorem dX13_goesOn_372 : decode cX13_goesOn 372 = .ok (.invokevirtual 367, 3) := by decide +kernel
theorem dX13_goesOn_375 : decode cX13_goesOn 375 = .ok (.aload_n 0, 1) := by decide +kernel
theorem dX13_goesOn_376 : decode cX13_goesOn 376 = .ok (.getfield 131, 3) := by decide +kernel
theorem dX13_goesOn_379 : decode cX13_goesOn 379 = .ok (.iload_n 1, 1) := by decide +kernel
theorem dX13_goesOn_380 : decode cX13_goesOn 380 = .ok (.iconst 0, 1) := by decide +kernel
theorem dX13_goesOn_381 : decode cX13_goesOn 381 = .ok (.iastore, 1) := by decide +kernel
theorem dX13_goesOn_382 : decode cX13_goesOn 382 = .ok (.aload_n 0, 1) := by decide +kernel
theorem dX13_goesOn_383 : decode cX13_goesOn 383 = .ok (.getfield 134, 3) := by decide +kernel
theorem dX13_goesOn_386 : decode cX13_goesOn 386 = .ok (.iload_n 1, 1) := by decide +kernel
theorem dX13_goesOn_387 : decode cX13_goesOn 387 = .ok (.iconst 1, 1) := by decide +kernel
theorem dX13_goesOn_388 : decode cX13_goesOn 388 = .ok (.bastore, 1) := by decide +kernel
theorem dX13_goesOn_389 : decode cX13_goesOn 389 = .ok (.aload_n 0, 1) := by decide +kernel
theorem dX13_goesOn_390 : decode cX13_goesOn 390 = .ok (.invokevirtual 274, 3) := by decide +kernel
theorem dX13_goesOn_393 : decode cX13_goesOn 393 = .ok (.aload_n 0, 1) := by decide +kernel
theorem dX13_goesOn_394 : decode cX13_goesOn 394 = .ok (.iconst 0, 1) := by decide +kernel
theorem dX13_goesOn_395 : decode cX13_goesOn 395 = .ok (.putfield 156, 3) := by decide +kernel
theorem dX13_goesOn_398 : decode cX13_goesOn 398 = .ok (.iconst 1, 1) := by decide +kernel
theorem dX13_goesOn_399 : decode cX13_goesOn 399 = .ok (.ireturn, 1) := by decide +kernel
theorem dX13_goesOn_400 : decode cX13_goesOn 400 = .ok (.iload_n 3, 1) := by decide +kernel
theorem dX13_goesOn_401 : decode cX13_goesOn 401 = .ok (.ifCond .eq 21, 3) := by decide +kernel
theorem dX13_goesOn_404 : decode cX13_goesOn 404 = .ok (.aload_n 0, 1) := by decide +kernel
theorem dX13_goesOn_405 : decode cX13_goesOn 405 = .ok (.getfield 131, 3) := by decide +kernel
theorem dX13_goesOn_408 : decode cX13_goesOn 408 = .ok (.iload_n 1, 1) := by decide +kernel
theorem dX13_goesOn_409 : decode cX13_goesOn 409 = .ok (.iaload, 1) := by decide +kernel
theorem dX13_goesOn_410 : decode cX13_goesOn 410 = .ok (.ifCond .ne 12, 3) := by decide +kernel
theorem dX13_goesOn_413 : decode cX13_goesOn 413 = .ok (.aload_n 0, 1) := by decide +kernel
theorem dX13_goesOn_414 : decode cX13_goesOn 414 = .ok (.iconst 1, 1) := by decide +kernel
theorem dX13_goesOn_415 : decode cX13_goesOn 415 = .ok (.aload_n 0, 1) := by decide +kernel
theorem dX13_goesOn_416 : decode cX13_goesOn 416 = .ok (.getfield 23, 3) := by decide +kernel
theorem dX13_goesOn_419 : decode cX13_goesOn 419 = .ok (.invokevirtual 257, 3) := by decide +kernel
theorem dX13_goesOn_422 : decode cX13_goesOn 422 = .ok (.iload_n 2, 1) := by decide +kernel
theorem dX13_goesOn_423 : decode cX13_goesOn 423 = .ok (.iconst 2, 1) := by decide +kernel
theorem dX13_goesOn_424 : decode cX13_goesOn 424 = .ok (.if_icmp .ge 17, 3) := by decide +kernel
theorem dX13_goesOn_427 : decode cX13_goesOn 427 = .ok (.aload_n 0, 1) := by decide +kernel
theorem dX13_goesOn_428 : decode cX13_goesOn 428 = .ok (.getfield 36, 3) := by decide +kernel
theorem dX13_goesOn_431 : decode cX13_goesOn 431 = .ok (.ifCond .ne 8, 3) := by decide +kernel
theorem dX13_goesOn_434 : decode cX13_goesOn 434 = .ok (.aload_n 0, 1) := by decide +kernel
theorem dX13_goesOn_435 : decode cX13_goesOn 435 = .ok (.iconst 1, 1) := by decide +kernel
theorem dX13_goesOn_436 : decode cX13_goesOn 436 = .ok (.invokevirtual 373, 3) := by decide +kernel
theorem dX13_goesOn_439 : decode cX13_goesOn 439 = .ok (.iconst 0, 1) := by decide +kernel
theorem dX13_goesOn_440 : decode cX13_goesOn 440 = .ok (.ireturn, 1) := by decide +kernel
theorem dX13_goesOn_441 : decode cX13_goesOn 441 = .ok (.iload_n 2, 1) := by decide +kernel
theorem dX13_goesOn_442 : decode cX13_goesOn 442 = .ok (.iconst 3, 1) := by decide +kernel
theorem dX13_goesOn_443 : decode cX13_goesOn 443 = .ok (.if_icmp .eq 9, 3) := by decide +kernel
theorem dX13_goesOn_446 : decode cX13_goesOn 446 = .ok (.iload_n 2, 1) := by decide +kernel
theorem dX13_goesOn_447 : decode cX13_goesOn 447 = .ok (.bipush 6, 2) := by decide +kernel
theorem dX13_goesOn_449 : decode cX13_goesOn 449 = .ok (.if_icmp .ne 69, 3) := by decide +kernel
theorem dX13_goesOn_452 : decode cX13_goesOn 452 = .ok (.aload_n 0, 1) := by decide +kernel
theorem dX13_goesOn_453 : decode cX13_goesOn 453 = .ok (.bipush 44, 2) := by decide +kernel
theorem dX13_goesOn_455 : decode cX13_goesOn 455 = .ok (.invokevirtual 271, 3) := by decide +kernel
theorem dX13_goesOn_458 : decode cX13_goesOn 458 = .ok (.ifCond .ne 12, 3) := by decide +kernel
theorem dX13_goesOn_461 : decode cX13_goesOn 461 = .ok (.aload_n 0, 1) := by decide +kernel
theorem dX13_goesOn_462 : decode cX13_goesOn 462 = .ok (.iconst 1, 1) := by decide +kernel
theorem dX13_goesOn_463 : decode cX13_goesOn 463 = .ok (.aload_n 0, 1) := by decide +kernel
theorem dX13_goesOn_464 : decode cX13_goesOn 464 = .ok (.getfield 23, 3) := by decide +kernel
theorem dX13_goesOn_467 : decode cX13_goesOn 467 = .ok (.invokevirtual 257, 3) := by decide +kernel
theorem dX13_goesOn_470 : decode cX13_goesOn 470 = .ok (.aload_n 0, 1) := by decide +kernel
theorem dX13_goesOn_471 : decode cX13_goesOn 471 = .ok (.getfield 36, 3) := by decide +kernel
theorem dX13_goesOn_474 : decode cX13_goesOn 474 = .ok (.ifCond .le 5, 3) := by decide +kernel
theorem dX13_goesOn_477 : decode cX13_goesOn 477 = .ok (.iconst 0, 1) := by decide +kernel
theorem dX13_goesOn_478 : decode cX13_goesOn 478 = .ok (.ireturn, 1) := by decide +kernel
theorem dX13_goesOn_479 : decode cX13_goesOn 479 = .ok (.aload_n 0, 1) := by decide +kernel
theorem dX13_goesOn_480 : decode cX13_goesOn 480 = .ok (.iconst 1, 1) := by decide +kernel
theorem dX13_goesOn_481 : decode cX13_goesOn 481 = .ok (.invokevirtual 373, 3) := by decide +kernel
theorem dX13_goesOn_484 : decode cX13_goesOn 484 = .ok (.aload_n 0, 1) := by decide +kernel
theorem dX13_goesOn_485 : decode cX13_goesOn 485 = .ok (.getfield 128, 3) := by decide +kernel
theorem dX13_goesOn_488 : decode cX13_goesOn 488 = .ok (.iload_n 1, 1) := by decide +kernel
theorem dX13_goesOn_489 : decode cX13_goesOn 489 = .ok (.iload_n 2, 1) := by decide +kernel
theorem dX13_goesOn_490 : decode cX13_goesOn 490 = .ok (.iconst 3, 1) := by decide +kernel
theorem dX13_goesOn_491 : decode cX13_goesOn 491 = .ok (.if_icmp .ne 7, 3) := by decide +kernel
theorem dX13_goesOn_494 : decode cX13_goesOn 494 = .ok (.iconst 4, 1) := by decide +kernel
theorem dX13_goesOn_495 : decode cX13_goesOn 495 = .ok (.goto 4, 3) := by decide +kernel
theorem dX13_goesOn_498 : decode cX13_goesOn 498 = .ok (.iconst 3, 1) := by decide +kernel
theorem dX13_goesOn_499 : decode cX13_goesOn 499 = .ok (.iastore, 1) := by decide +kernel
theorem dX13_goesOn_500 : decode cX13_goesOn 500 = .ok (.aload_n 0, 1) := by decide +kernel
theorem dX13_goesOn_501 : decode cX13_goesOn 501 = .ok (.getfield 131, 3) := by decide +kernel
theorem dX13_goesOn_504 : decode cX13_goesOn 504 = .ok (.iload_n 1, 1) := by decide +kernel
theorem dX13_goesOn_505 : decode cX13_goesOn 505 = .ok (.iconst 0, 1) := by decide +kernel
theorem dX13_goesOn_506 : decode cX13_goesOn 506 = .ok (.iastore, 1) := by decide +kernel
theorem dX13_goesOn_507 : decode cX13_goesOn 507 = .ok (.aload_n 0, 1) := by decide +kernel
theorem dX13_goesOn_508 : decode cX13_goesOn 508 = .ok (.invokevirtual 274, 3) := by decide +kernel
theorem dX13_goesOn_511 : decode cX13_goesOn 511 = .ok (.aload_n 0, 1) := by decide +kernel
theorem dX13_goesOn_512 : decode cX13_goesOn 512 = .ok (.iconst 0, 1) := by decide +kernel
theorem dX13_goesOn_513 : decode cX13_goesOn 513 = .ok (.putfield 156, 3) := by decide +kernel
theorem dX13_goesOn_516 : decode cX13_goesOn 516 = .ok (.iconst 1, 1) := by decide +kernel
theorem dX13_goesOn_517 : decode cX13_goesOn 517 = .ok (.ireturn, 1) := by decide +kernel
theorem dX13_goesOn_518 : decode cX13_goesOn 518 = .ok (.aload_n 0, 1) := by decide +kernel
theorem dX13_goesOn_519 : decode cX13_goesOn 519 = .ok (.iload_n 2, 1) := by decide +kernel
theorem dX13_goesOn_520 : decode cX13_goesOn 520 = .ok (.iconst 5, 1) := by decide +kernel
theorem dX13_goesOn_521 : decode cX13_goesOn 521 = .ok (.if_icmp .ne 8, 3) := by decide +kernel
theorem dX13_goesOn_524 : decode cX13_goesOn 524 = .ok (.bipush 93, 2) := by decide +kernel
theorem dX13_goesOn_526 : decode cX13_goesOn 526 = .ok (.goto 5, 3) := by decide +kernel
theorem dX13_goesOn_529 : decode cX13_goesOn 529 = .ok (.bipush 41, 2) := by decide +kernel
theorem dX13_goesOn_531 : decode cX13_goesOn 531 = .ok (.invokevirtual 271, 3) := by decide +kernel
theorem dX13_goesOn_534 : decode cX13_goesOn 534 = .ok (.ifCond .ne 12, 3) := by decide +kernel
theorem dX13_goesOn_537 : decode cX13_goesOn 537 = .ok (.aload_n 0, 1) := by decide +kernel
theorem dX13_goesOn_538 : decode cX13_goesOn 538 = .ok (.iconst 1, 1) := by decide +kernel
theorem dX13_goesOn_539 : decode cX13_goesOn 539 = .ok (.aload_n 0, 1) := by decide +kernel
theorem dX13_goesOn_540 : decode cX13_goesOn 540 = .ok (.getfield 23, 3) := by decide +kernel
theorem dX13_goesOn_543 : decode cX13_goesOn 543 = .ok (.invokevirtual 257, 3) := by decide +kernel
theorem dX13_goesOn_546 : decode cX13_goesOn 546 = .ok (.aload_n 0, 1) := by decide +kernel
theorem dX13_goesOn_547 : decode cX13_goesOn 547 = .ok (.getfield 36, 3) := by decide +kernel
theorem dX13_goesOn_550 : decode cX13_goesOn 550 = .ok (.ifCond .le 5, 3) := by decide +kernel
theorem dX13_goesOn_553 : decode cX13_goesOn 553 = .ok (.iconst 0, 1) := by decide +kernel
theorem dX13_goesOn_554 : decode cX13_goesOn 554 = .ok (.ireturn, 1) := by decide +kernel
theorem dX13_goesOn_555 : decode cX13_goesOn 555 = .ok (.aload_n 0, 1) := by decide +kernel
theorem dX13_goesOn_556 : decode cX13_goesOn 556 = .ok (.iconst 1, 1) := by decide +kernel
theorem dX13_goesOn_557 : decode cX13_goesOn 557 = .ok (.invokevirtual 373, 3) := by decide +kernel
theorem dX13_goesOn_560 : decode cX13_goesOn 560 = .ok (.aload_n 0, 1) := by decide +kernel
theorem dX13_goesOn_561 : decode cX13_goesOn 561 = .ok (.dup, 1) := by decide +kernel
theorem dX13_goesOn_562 : decode cX13_goesOn 562 = .ok (.getfield 144, 3) := by decide +kernel
theorem dX13_goesOn_565 : decode cX13_goesOn 565 = .ok (.iconst 1, 1) := by decide +kernel
theorem dX13_goesOn_566 : decode cX13_goesOn 566 = .ok (.isub, 1) := by decide +kernel
theorem dX13_goesOn_567 : decode cX13_goesOn 567 = .ok (.putfield 144, 3) := by decide +kernel
theorem dX13_goesOn_570 : decode cX13_goesOn 570 = .ok (.aload_n 0, 1) := by decide +kernel
theorem dX13_goesOn_571 : decode cX13_goesOn 571 = .ok (.dup, 1) := by decide +kernel
theorem dX13_goesOn_572 : decode cX13_goesOn 572 = .ok (.getfield 147, 3) := by decide +kernel
theorem dX13_goesOn_575 : decode cX13_goesOn 575 = .ok (.iconst 1, 1) := by decide +kernel
theorem dX13_goesOn_576 : decode cX13_goesOn 576 = .ok (.isub, 1) := by decide +kernel
theorem dX13_goesOn_577 : decode cX13_goesOn 577 = .ok (.putfield 147, 3) := by decide +kernel
theorem dX13_goesOn_580 : decode cX13_goesOn 580 = .ok (.iload_n 2, 1) := by decide +kernel
theorem dX13_goesOn_581 : decode cX13_goesOn 581 = .ok (.iconst 4, 1) := by decide +kernel
theorem dX13_goesOn_582 : decode cX13_goesOn 582 = .ok (.if_icmp .ne 14, 3) := by decide +kernel
theorem dX13_goesOn_585 : decode cX13_goesOn 585 = .ok (.aload_n 0, 1) := by decide +kernel
theorem dX13_goesOn_586 : decode cX13_goesOn 586 = .ok (.aload_n 0, 1) := by decide +kernel
theorem dX13_goesOn_587 : decode cX13_goesOn 587 = .ok (.getfield 138, 3) := by decide +kernel
theorem dX13_goesOn_590 : decode cX13_goesOn 590 = .ok (.iload_n 1, 1) := by decide +kernel
theorem dX13_goesOn_591 : decode cX13_goesOn 591 = .ok (.iaload, 1) := by decide +kernel
theorem dX13_goesOn_592 : decode cX13_goesOn 592 = .ok (.iconst 0, 1) := by decide +kernel
theorem dX13_goesOn_593 : decode cX13_goesOn 593 = .ok (.invokevirtual 354, 3) := by decide +kernel
theorem dX13_goesOn_596 : decode cX13_goesOn 596 = .ok (.iload_n 2, 1) := by decide +kernel
theorem dX13_goesOn_597 : decode cX13_goesOn 597 = .ok (.iconst 5, 1) := by decide +kernel
theorem dX13_goesOn_598 : decode cX13_goesOn 598 = .ok (.if_icmp .ne 15, 3) := by decide +kernel
theorem dX13_goesOn_601 : decode cX13_goesOn 601 = .ok (.aload_n 0, 1) := by decide +kernel
theorem dX13_goesOn_602 : decode cX13_goesOn 602 = .ok (.getfield 131, 3) := by decide +kernel
theorem dX13_goesOn_605 : decode cX13_goesOn 605 = .ok (.aload_n 0, 1) := by decide +kernel
theorem dX13_goesOn_606 : decode cX13_goesOn 606 = .ok (.getfield 144, 3) := by decide +kernel
theorem dX13_goesOn_609 : decode cX13_goesOn 609 = .ok (.iconst 1, 1) := by decide +kernel
theorem dX13_goesOn_610 : decode cX13_goesOn 610 = .ok (.isub, 1) := by decide +kernel
theorem dX13_goesOn_611 : decode cX13_goesOn 611 = .ok (.iconst 2, 1) := by decide +kernel
theorem dX13_goesOn_612 : decode cX13_goesOn 612 = .ok (.iastore, 1) := by decide +kernel
theorem dX13_goesOn_613 : decode cX13_goesOn 613 = .ok (.aload_n 0, 1) := by decide +kernel
theorem dX13_goesOn_614 : decode cX13_goesOn 614 = .ok (.invokevirtual 274, 3) := by decide +kernel
theorem dX13_goesOn_617 : decode cX13_goesOn 617 = .ok (.iconst 1, 1) := by decide +kernel
theorem dX13_goesOn_618 : decode cX13_goesOn 618 = .ok (.ireturn, 1) := by decide +kernel
theorem dX13_reads_0 : decode cX13_reads 0 = .ok (.aload_n 0, 1) := by decide +kernel
theorem dX13_reads_1 : decode cX13_reads 1 = .ok (.getfield 36, 3) := by decide +kernel
theorem dX13_reads_4 : decode cX13_reads 4 = .ok (.ifCond .le 4, 3) := by decide +kernel
theorem dX13_reads_7 : decode cX13_reads 7 = .ok (.return_, 1) := by decide +kernel
theorem dX13_reads_8 : decode cX13_reads 8 = .ok (.aload_n 0, 1) := by decide +kernel
theorem dX13_reads_9 : decode cX13_reads 9 = .ok (.iconst 0, 1) := by decide +kernel
theorem dX13_reads_10 : decode cX13_reads 10 = .ok (.putfield 144, 3) := by decide +kernel
theorem dX13_reads_13 : decode cX13_reads 13 = .ok (.aload_n 0, 1) := by decide +kernel
theorem dX13_reads_14 : decode cX13_reads 14 = .ok (.iconst 0, 1) := by decide +kernel
theorem dX13_reads_15 : decode cX13_reads 15 = .ok (.putfield 147, 3) := by decide +kernel
theorem dX13_reads_18 : decode cX13_reads 18 = .ok (.aload_n 0, 1) := by decide +kernel
theorem dX13_reads_19 : decode cX13_reads 19 = .ok (.iconst 0, 1) := by decide +kernel
theorem dX13_reads_20 : decode cX13_reads 20 = .ok (.putfield 153, 3) := by decide +kernel
theorem dX13_reads_23 : decode cX13_reads 23 = .ok (.aload_n 0, 1) := by decide +kernel
theorem dX13_reads_24 : decode cX13_reads 24 = .ok (.iconst 0, 1) := by decide +kernel
theorem dX13_reads_25 : decode cX13_reads 25 = .ok (.putfield 156, 3) := by decide +kernel
theorem dX13_reads_28 : decode cX13_reads 28 = .ok (.aload_n 0, 1) := by decide +kernel
theorem dX13_reads_29 : decode cX13_reads 29 = .ok (.iload_n 1, 1) := by decide +kernel
theorem dX13_reads_30 : decode cX13_reads 30 = .ok (.ifCond .eq 7, 3) := by decide +kernel
theorem dX13_reads_33 : decode cX13_reads 33 = .ok (.iconst 1, 1) := by decide +kernel
theorem dX13_reads_34 : decode cX13_reads 34 = .ok (.goto 4, 3) := by decide +kernel
theorem dX13_reads_37 : decode cX13_reads 37 = .ok (.iconst 0, 1) := by decide +kernel
theorem dX13_reads_38 : decode cX13_reads 38 = .ok (.invokevirtual 357, 3) := by decide +kernel
theorem dX13_reads_41 : decode cX13_reads 41 = .ok (.iconst 1, 1) := by decide +kernel
theorem dX13_reads_42 : decode cX13_reads 42 = .ok (.istore_n 2, 1) := by decide +kernel
theorem dX13_reads_43 : decode cX13_reads 43 = .ok (.iload_n 2, 1) := by decide +kernel
theorem dX13_reads_44 : decode cX13_reads 44 = .ok (.ifCond .eq 46, 3) := by decide +kernel
theorem dX13_reads_47 : decode cX13_reads 47 = .ok (.aload_n 0, 1) := by decide +kernel
theorem dX13_reads_48 : decode cX13_reads 48 = .ok (.getfield 156, 3) := by decide +kernel
theorem dX13_reads_51 : decode cX13_reads 51 = .ok (.ifCond .ne 14, 3) := by decide +kernel
theorem dX13_reads_54 : decode cX13_reads 54 = .ok (.aload_n 0, 1) := by decide +kernel
theorem dX13_reads_55 : decode cX13_reads 55 = .ok (.aload_n 0, 1) := by decide +kernel
theorem dX13_reads_56 : decode cX13_reads 56 = .ok (.invokevirtual 376, 3) := by decide +kernel
theorem dX13_reads_59 : decode cX13_reads 59 = .ok (.putfield 156, 3) := by decide +kernel
theorem dX13_reads_62 : decode cX13_reads 62 = .ok (.goto 8, 3) := by decide +kernel
theorem dX13_reads_65 : decode cX13_reads 65 = .ok (.aload_n 0, 1) := by decide +kernel
theorem dX13_reads_66 : decode cX13_reads 66 = .ok (.invokevirtual 379, 3) := by decide +kernel
theorem dX13_reads_69 : decode cX13_reads 69 = .ok (.istore_n 2, 1) := by decide +kernel
theorem dX13_reads_70 : decode cX13_reads 70 = .ok (.iload_n 2, 1) := by decide +kernel
theorem dX13_reads_71 : decode cX13_reads 71 = .ok (.ifCond .eq 14, 3) := by decide +kernel
theorem dX13_reads_74 : decode cX13_reads 74 = .ok (.aload_n 0, 1) := by decide +kernel
theorem dX13_reads_75 : decode cX13_reads 75 = .ok (.getfield 36, 3) := by decide +kernel
theorem dX13_reads_78 : decode cX13_reads 78 = .ok (.ifCond .ne 7, 3) := by decide +kernel
theorem dX13_reads_81 : decode cX13_reads 81 = .ok (.iconst 1, 1) := by decide +kernel
theorem dX13_reads_82 : decode cX13_reads 82 = .ok (.goto 4, 3) := by decide +kernel
theorem dX13_reads_85 : decode cX13_reads 85 = .ok (.iconst 0, 1) := by decide +kernel
theorem dX13_reads_86 : decode cX13_reads 86 = .ok (.istore_n 2, 1) := by decide +kernel
theorem dX13_reads_87 : decode cX13_reads 87 = .ok (.goto (-44), 3) := by decide +kernel
theorem dX13_reads_90 : decode cX13_reads 90 = .ok (.return_, 1) := by decide +kernel
theorem dX13_counts_0 : decode cX13_counts 0 = .ok (.aload_n 0, 1) := by decide +kernel
theorem dX13_counts_1 : decode cX13_counts 1 = .ok (.getfield 36, 3) := by decide +kernel
theorem dX13_counts_4 : decode cX13_counts 4 = .ok (.ifCond .ne 17, 3) := by decide +kernel
theorem dX13_counts_7 : decode cX13_counts 7 = .ok (.iload_n 1, 1) := by decide +kernel
theorem dX13_counts_8 : decode cX13_counts 8 = .ok (.ifCond .eq 13, 3) := by decide +kernel
theorem dX13_counts_11 : decode cX13_counts 11 = .ok (.aload_n 0, 1) := by decide +kernel
theorem dX13_counts_12 : decode cX13_counts 12 = .ok (.bipush 6, 2) := by decide +kernel
theorem dX13_counts_14 : decode cX13_counts 14 = .ok (.aload_n 0, 1) := by decide +kernel
theorem dX13_counts_15 : decode cX13_counts 15 = .ok (.getfield 23, 3) := by decide +kernel
theorem dX13_counts_18 : decode cX13_counts 18 = .ok (.invokevirtual 257, 3) := by decide +kernel
theorem dX13_counts_21 : decode cX13_counts 21 = .ok (.aload_n 0, 1) := by decide +kernel
theorem dX13_counts_22 : decode cX13_counts 22 = .ok (.getfield 36, 3) := by decide +kernel
theorem dX13_counts_25 : decode cX13_counts 25 = .ok (.ifCond .ne 7, 3) := by decide +kernel
theorem dX13_counts_28 : decode cX13_counts 28 = .ok (.aload_n 0, 1) := by decide +kernel
theorem dX13_counts_29 : decode cX13_counts 29 = .ok (.invokevirtual 274, 3) := by decide +kernel
theorem dX13_counts_32 : decode cX13_counts 32 = .ok (.aload_n 0, 1) := by decide +kernel
theorem dX13_counts_33 : decode cX13_counts 33 = .ok (.getfield 36, 3) := by decide +kernel
theorem dX13_counts_36 : decode cX13_counts 36 = .ok (.ifCond .ne 7, 3) := by decide +kernel
theorem dX13_counts_39 : decode cX13_counts 39 = .ok (.iconst 1, 1) := by decide +kernel
theorem dX13_counts_40 : decode cX13_counts 40 = .ok (.goto 4, 3) := by decide +kernel
theorem dX13_counts_43 : decode cX13_counts 43 = .ok (.iconst 0, 1) := by decide +kernel
theorem dX13_counts_44 : decode cX13_counts 44 = .ok (.ireturn, 1) := by decide +kernel
theorem dX13_must__0 : decode cX13_must_ 0 = .ok (.aload_n 0, 1) := by decide +kernel
theorem dX13_must__1 : decode cX13_must_ 1 = .ok (.invokevirtual 268, 3) := by decide +kernel
theorem dX13_must__4 : decode cX13_must_ 4 = .ok (.aload_n 0, 1) := by decide +kernel
theorem dX13_must__5 : decode cX13_must_ 5 = .ok (.getfield 36, 3) := by decide +kernel
theorem dX13_must__8 : decode cX13_must_ 8 = .ok (.ifCond .le 4, 3) := by decide +kernel
theorem dX13_must__11 : decode cX13_must_ 11 = .ok (.return_, 1) := by decide +kernel
theorem dX13_must__12 : decode cX13_must_ 12 = .ok (.aload_n 0, 1) := by decide +kernel
theorem dX13_must__13 : decode cX13_must_ 13 = .ok (.lload_n 1, 1) := by decide +kernel
theorem dX13_must__14 : decode cX13_must_ 14 = .ok (.invokevirtual 363, 3) := by decide +kernel
theorem dX13_must__17 : decode cX13_must_ 17 = .ok (.ifCond .ne 12, 3) := by decide +kernel
theorem dX13_must__20 : decode cX13_must_ 20 = .ok (.aload_n 0, 1) := by decide +kernel
theorem dX13_must__21 : decode cX13_must_ 21 = .ok (.iconst 1, 1) := by decide +kernel
theorem dX13_must__22 : decode cX13_must_ 22 = .ok (.aload_n 0, 1) := by decide +kernel
theorem dX13_must__23 : decode cX13_must_ 23 = .ok (.getfield 23, 3) := by decide +kernel
theorem dX13_must__26 : decode cX13_must_ 26 = .ok (.invokevirtual 257, 3) := by decide +kernel
theorem dX13_must__29 : decode cX13_must_ 29 = .ok (.aload_n 0, 1) := by decide +kernel
theorem dX13_must__30 : decode cX13_must_ 30 = .ok (.getfield 36, 3) := by decide +kernel
theorem dX13_must__33 : decode cX13_must_ 33 = .ok (.ifCond .ne 7, 3) := by decide +kernel
theorem dX13_must__36 : decode cX13_must_ 36 = .ok (.aload_n 0, 1) := by decide +kernel
theorem dX13_must__37 : decode cX13_must_ 37 = .ok (.invokevirtual 274, 3) := by decide +kernel
theorem dX13_must__40 : decode cX13_must_ 40 = .ok (.return_, 1) := by decide +kernel
theorem dX13_fresh_0 : decode cX13_fresh 0 = .ok (.aload_n 0, 1) := by decide +kernel
theorem dX13_fresh_1 : decode cX13_fresh 1 = .ok (.invokevirtual 268, 3) := by decide +kernel
theorem dX13_fresh_4 : decode cX13_fresh 4 = .ok (.aload_n 0, 1) := by decide +kernel
theorem dX13_fresh_5 : decode cX13_fresh 5 = .ok (.getfield 36, 3) := by decide +kernel
theorem dX13_fresh_8 : decode cX13_fresh 8 = .ok (.ifCond .le 5, 3) := by decide +kernel
theorem dX13_fresh_11 : decode cX13_fresh 11 = .ok (.lconst 0, 1) := by decide +kernel
theorem dX13_fresh_12 : decode cX13_fresh 12 = .ok (.lreturn, 1) := by decide +kernel
theorem dX13_fresh_13 : decode cX13_fresh 13 = .ok (.aload_n 0, 1) := by decide +kernel
theorem dX13_fresh_14 : decode cX13_fresh 14 = .ok (.getfield 20, 3) := by decide +kernel
theorem dX13_fresh_17 : decode cX13_fresh 17 = .ok (.iconst 1, 1) := by decide +kernel
theorem dX13_fresh_18 : decode cX13_fresh 18 = .ok (.if_icmp .ne 14, 3) := by decide +kernel
theorem dX13_fresh_21 : decode cX13_fresh 21 = .ok (.aload_n 0, 1) := by decide +kernel
theorem dX13_fresh_22 : decode cX13_fresh 22 = .ok (.aload_n 0, 1) := by decide +kernel
theorem dX13_fresh_23 : decode cX13_fresh 23 = .ok (.getfield 32, 3) := by decide +kernel
theorem dX13_fresh_26 : decode cX13_fresh 26 = .ok (.invokevirtual 382, 3) := by decide +kernel
theorem dX13_fresh_29 : decode cX13_fresh 29 = .ok (.ifCond .eq 12, 3) := by decide +kernel
theorem dX13_fresh_32 : decode cX13_fresh 32 = .ok (.aload_n 0, 1) := by decide +kernel
theorem dX13_fresh_33 : decode cX13_fresh 33 = .ok (.iconst 1, 1) := by decide +kernel
theorem dX13_fresh_34 : decode cX13_fresh 34 = .ok (.aload_n 0, 1) := by decide +kernel
theorem dX13_fresh_35 : decode cX13_fresh 35 = .ok (.getfield 23, 3) := by decide +kernel
theorem dX13_fresh_38 : decode cX13_fresh 38 = .ok (.invokevirtual 257, 3) := by decide +kernel
theorem dX13_fresh_41 : decode cX13_fresh 41 = .ok (.iconst 0, 1) := by decide +kernel
theorem dX13_fresh_42 : decode cX13_fresh 42 = .ok (.istore_n 1, 1) := by decide +kernel
theorem dX13_fresh_43 : decode cX13_fresh 43 = .ok (.iload_n 1, 1) := by decide +kernel
theorem dX13_fresh_44 : decode cX13_fresh 44 = .ok (.iconst 2, 1) := by decide +kernel
theorem dX13_fresh_45 : decode cX13_fresh 45 = .ok (.if_icmp .gt 38, 3) := by decide +kernel
theorem dX13_fresh_48 : decode cX13_fresh 48 = .ok (.aload_n 0, 1) := by decide +kernel
theorem dX13_fresh_49 : decode cX13_fresh 49 = .ok (.getfield 36, 3) := by decide +kernel
theorem dX13_fresh_52 : decode cX13_fresh 52 = .ok (.ifCond .ne 31, 3) := by decide +kernel
theorem dX13_fresh_55 : decode cX13_fresh 55 = .ok (.aload_n 0, 1) := by decide +kernel
theorem dX13_fresh_56 : decode cX13_fresh 56 = .ok (.iload_n 1, 1) := by decide +kernel
theorem dX13_fresh_57 : decode cX13_fresh 57 = .ok (.aload_n 0, 1) := by decide +kernel
theorem dX13_fresh_58 : decode cX13_fresh 58 = .ok (.getfield 32, 3) := by decide +kernel
theorem dX13_fresh_61 : decode cX13_fresh 61 = .ok (.invokevirtual 385, 3) := by decide +kernel
theorem dX13_fresh_64 : decode cX13_fresh 64 = .ok (.iconst (-1), 1) := by decide +kernel
theorem dX13_fresh_65 : decode cX13_fresh 65 = .ok (.if_icmp .eq 12, 3) := by decide +kernel
theorem dX13_fresh_68 : decode cX13_fresh 68 = .ok (.aload_n 0, 1) := by decide +kernel
theorem dX13_fresh_69 : decode cX13_fresh 69 = .ok (.iconst 2, 1) := by decide +kernel
theorem dX13_fresh_70 : decode cX13_fresh 70 = .ok (.aload_n 0, 1) := by decide +kernel
theorem dX13_fresh_71 : decode cX13_fresh 71 = .ok (.getfield 23, 3) := by decide +kernel
theorem dX13_fresh_74 : decode cX13_fresh 74 = .ok (.invokevirtual 257, 3) := by decide +kernel
theorem dX13_fresh_77 : decode cX13_fresh 77 = .ok (.iinc 1 1, 3) := by decide +kernel
theorem dX13_fresh_80 : decode cX13_fresh 80 = .ok (.goto (-37), 3) := by decide +kernel
theorem dX13_fresh_83 : decode cX13_fresh 83 = .ok (.aload_n 0, 1) := by decide +kernel
theorem dX13_fresh_84 : decode cX13_fresh 84 = .ok (.getfield 32, 3) := by decide +kernel
theorem dX13_fresh_87 : decode cX13_fresh 87 = .ok (.lstore_n 1, 1) := by decide +kernel
theorem dX13_fresh_88 : decode cX13_fresh 88 = .ok (.aload_n 0, 1) := by decide +kernel
theorem dX13_fresh_89 : decode cX13_fresh 89 = .ok (.getfield 36, 3) := by decide +kernel
theorem dX13_fresh_92 : decode cX13_fresh 92 = .ok (.ifCond .ne 7, 3) := by decide +kernel
theorem dX13_fresh_95 : decode cX13_fresh 95 = .ok (.aload_n 0, 1) := by decide +kernel
theorem dX13_fresh_96 : decode cX13_fresh 96 = .ok (.invokevirtual 274, 3) := by decide +kernel
theorem dX13_fresh_99 : decode cX13_fresh 99 = .ok (.lload_n 1, 1) := by decide +kernel
theorem dX13_fresh_100 : decode cX13_fresh 100 = .ok (.lreturn, 1) := by decide +kernel
theorem dX13_askedBut_0 : decode cX13_askedBut 0 = .ok (.aload_n 0, 1) := by decide +kernel
theorem dX13_askedBut_1 : decode cX13_askedBut 1 = .ok (.invokevirtual 268, 3) := by decide +kernel
theorem dX13_askedBut_4 : decode cX13_askedBut 4 = .ok (.aload_n 0, 1) := by decide +kernel
theorem dX13_askedBut_5 : decode cX13_askedBut 5 = .ok (.getfield 36, 3) := by decide +kernel
theorem dX13_askedBut_8 : decode cX13_askedBut 8 = .ok (.ifCond .le 5, 3) := by decide +kernel
theorem dX13_askedBut_11 : decode cX13_askedBut 11 = .ok (.iconst 0, 1) := by decide +kernel
theorem dX13_askedBut_12 : decode cX13_askedBut 12 = .ok (.ireturn, 1) := by decide +kernel
theorem dX13_askedBut_13 : decode cX13_askedBut 13 = .ok (.aload_n 0, 1) := by decide +kernel
theorem dX13_askedBut_14 : decode cX13_askedBut 14 = .ok (.getfield 20, 3) := by decide +kernel
theorem dX13_askedBut_17 : decode cX13_askedBut 17 = .ok (.iconst 1, 1) := by decide +kernel
theorem dX13_askedBut_18 : decode cX13_askedBut 18 = .ok (.if_icmp .ne 14, 3) := by decide +kernel
theorem dX13_askedBut_21 : decode cX13_askedBut 21 = .ok (.aload_n 0, 1) := by decide +kernel
theorem dX13_askedBut_22 : decode cX13_askedBut 22 = .ok (.aload_n 0, 1) := by decide +kernel
theorem dX13_askedBut_23 : decode cX13_askedBut 23 = .ok (.getfield 32, 3) := by decide +kernel
theorem dX13_askedBut_26 : decode cX13_askedBut 26 = .ok (.invokevirtual 382, 3) := by decide +kernel
theorem dX13_askedBut_29 : decode cX13_askedBut 29 = .ok (.ifCond .eq 12, 3) := by decide +kernel
theorem dX13_askedBut_32 : decode cX13_askedBut 32 = .ok (.aload_n 0, 1) := by decide +kernel
theorem dX13_askedBut_33 : decode cX13_askedBut 33 = .ok (.iconst 1, 1) := by decide +kernel
theorem dX13_askedBut_34 : decode cX13_askedBut 34 = .ok (.aload_n 0, 1) := by decide +kernel
theorem dX13_askedBut_35 : decode cX13_askedBut 35 = .ok (.getfield 23, 3) := by decide +kernel
theorem dX13_askedBut_38 : decode cX13_askedBut 38 = .ok (.invokevirtual 257, 3) := by decide +kernel
theorem dX13_askedBut_41 : decode cX13_askedBut 41 = .ok (.aload_n 0, 1) := by decide +kernel
theorem dX13_askedBut_42 : decode cX13_askedBut 42 = .ok (.getfield 36, 3) := by decide +kernel
theorem dX13_askedBut_45 : decode cX13_askedBut 45 = .ok (.ifCond .le 7, 3) := by decide +kernel
theorem dX13_askedBut_48 : decode cX13_askedBut 48 = .ok (.iconst 0, 1) := by decide +kernel
theorem dX13_askedBut_49 : decode cX13_askedBut 49 = .ok (.goto 12, 3) := by decide +kernel
theorem dX13_askedBut_52 : decode cX13_askedBut 52 = .ok (.aload_n 0, 1) := by decide +kernel
theorem dX13_askedBut_53 : decode cX13_askedBut 53 = .ok (.iload_n 1, 1) := by decide +kernel
theorem dX13_askedBut_54 : decode cX13_askedBut 54 = .ok (.aload_n 0, 1) := by decide +kernel
theorem dX13_askedBut_55 : decode cX13_askedBut 55 = .ok (.getfield 32, 3) := by decide +kernel
theorem dX13_askedBut_58 : decode cX13_askedBut 58 = .ok (.invokevirtual 385, 3) := by decide +kernel
theorem dX13_askedBut_61 : decode cX13_askedBut 61 = .ok (.istore_n 3, 1) := by decide +kernel
theorem dX13_askedBut_62 : decode cX13_askedBut 62 = .ok (.aload_n 0, 1) := by decide +kernel
theorem dX13_askedBut_63 : decode cX13_askedBut 63 = .ok (.getfield 36, 3) := by decide +kernel
theorem dX13_askedBut_66 : decode cX13_askedBut 66 = .ok (.ifCond .ne 25, 3) := by decide +kernel
theorem dX13_askedBut_69 : decode cX13_askedBut 69 = .ok (.iload_n 3, 1) := by decide +kernel
theorem dX13_askedBut_70 : decode cX13_askedBut 70 = .ok (.iconst (-1), 1) := by decide +kernel
theorem dX13_askedBut_71 : decode cX13_askedBut 71 = .ok (.if_icmp .eq 11, 3) := by decide +kernel
theorem dX13_askedBut_74 : decode cX13_askedBut 74 = .ok (.iload_n 2, 1) := by decide +kernel
theorem dX13_askedBut_75 : decode cX13_askedBut 75 = .ok (.iload_n 3, 1) := by decide +kernel
theorem dX13_askedBut_76 : decode cX13_askedBut 76 = .ok (.invokestatic 389, 3) := by decide +kernel
theorem dX13_askedBut_79 : decode cX13_askedBut 79 = .ok (.ifCond .eq 12, 3) := by decide +kernel
theorem dX13_askedBut_82 : decode cX13_askedBut 82 = .ok (.aload_n 0, 1) := by decide +kernel
theorem dX13_askedBut_83 : decode cX13_askedBut 83 = .ok (.iconst 3, 1) := by decide +kernel
theorem dX13_askedBut_84 : decode cX13_askedBut 84 = .ok (.aload_n 0, 1) := by decide +kernel
theorem dX13_askedBut_85 : decode cX13_askedBut 85 = .ok (.getfield 23, 3) := by decide +kernel
theorem dX13_askedBut_88 : decode cX13_askedBut 88 = .ok (.invokevirtual 257, 3) := by decide +kernel
theorem dX13_askedBut_91 : decode cX13_askedBut 91 = .ok (.aload_n 0, 1) := by decide +kernel
theorem dX13_askedBut_92 : decode cX13_askedBut 92 = .ok (.getfield 36, 3) := by decide +kernel
theorem dX13_askedBut_95 : decode cX13_askedBut 95 = .ok (.ifCond .ne 7, 3) := by decide +kernel
theorem dX13_askedBut_98 : decode cX13_askedBut 98 = .ok (.aload_n 0, 1) := by decide +kernel
theorem dX13_askedBut_99 : decode cX13_askedBut 99 = .ok (.invokevirtual 274, 3) := by decide +kernel
theorem dX13_askedBut_102 : decode cX13_askedBut 102 = .ok (.aload_n 0, 1) := by decide +kernel
theorem dX13_askedBut_103 : decode cX13_askedBut 103 = .ok (.getfield 36, 3) := by decide +kernel
theorem dX13_askedBut_106 : decode cX13_askedBut 106 = .ok (.ifCond .le 7, 3) := by decide +kernel
theorem dX13_askedBut_109 : decode cX13_askedBut 109 = .ok (.iconst 0, 1) := by decide +kernel
theorem dX13_askedBut_110 : decode cX13_askedBut 110 = .ok (.goto 4, 3) := by decide +kernel
theorem dX13_askedBut_113 : decode cX13_askedBut 113 = .ok (.iload_n 3, 1) := by decide +kernel
theorem dX13_askedBut_114 : decode cX13_askedBut 114 = .ok (.ireturn, 1) := by decide +kernel
theorem dX13_has2_0 : decode cX13_has2 0 = .ok (.iload_n 0, 1) := by decide +kernel
theorem dX13_has2_1 : decode cX13_has2 1 = .ok (.iload_n 1, 1) := by decide +kernel
theorem dX13_has2_2 : decode cX13_has2 2 = .ok (.ishr, 1) := by decide +kernel
theorem dX13_has2_3 : decode cX13_has2 3 = .ok (.iconst 1, 1) := by decide +kernel
theorem dX13_has2_4 : decode cX13_has2 4 = .ok (.iand, 1) := by decide +kernel
theorem dX13_has2_5 : decode cX13_has2 5 = .ok (.iconst 1, 1) := by decide +kernel
theorem dX13_has2_6 : decode cX13_has2 6 = .ok (.if_icmp .ne 7, 3) := by decide +kernel
theorem dX13_has2_9 : decode cX13_has2 9 = .ok (.iconst 1, 1) := by decide +kernel
theorem dX13_has2_10 : decode cX13_has2 10 = .ok (.goto 4, 3) := by decide +kernel
theorem dX13_has2_13 : decode cX13_has2 13 = .ok (.iconst 0, 1) := by decide +kernel
theorem dX13_has2_14 : decode cX13_has2 14 = .ok (.ireturn, 1) := by decide +kernel
theorem dX13_homing_0 : decode cX13_homing 0 = .ok (.aload_n 0, 1) := by decide +kernel
theorem dX13_homing_1 : decode cX13_homing 1 = .ok (.aload_n 0, 1) := by decide +kernel
theorem dX13_homing_2 : decode cX13_homing 2 = .ok (.getfield 54, 3) := by decide +kernel
theorem dX13_homing_5 : decode cX13_homing 5 = .ok (.aload_n 0, 1) := by decide +kernel
theorem dX13_homing_6 : decode cX13_homing 6 = .ok (.getfield 121, 3) := by decide +kernel
theorem dX13_homing_9 : decode cX13_homing 9 = .ok (.iaload, 1) := by decide +kernel
theorem dX13_homing_10 : decode cX13_homing 10 = .ok (.bipush 6, 2) := by decide +kernel
theorem dX13_homing_12 : decode cX13_homing 12 = .ok (.if_icmp .ne 7, 3) := by decide +kernel
theorem dX13_homing_15 : decode cX13_homing 15 = .ok (.iconst 1, 1) := by decide +kernel
theorem dX13_homing_16 : decode cX13_homing 16 = .ok (.goto 4, 3) := by decide +kernel
theorem dX13_homing_19 : decode cX13_homing 19 = .ok (.iconst 0, 1) := by decide +kernel
theorem dX13_homing_20 : decode cX13_homing 20 = .ok (.invokevirtual 393, 3) := by decide +kernel
theorem dX13_homing_23 : decode cX13_homing 23 = .ok (.ifCond .ne 4, 3) := by decide +kernel
theorem dX13_homing_26 : decode cX13_homing 26 = .ok (.return_, 1) := by decide +kernel
theorem dX13_homing_27 : decode cX13_homing 27 = .ok (.bipush 6, 2) := by decide +kernel
theorem dX13_homing_29 : decode cX13_homing 29 = .ok (.aload_n 0, 1) := by decide +kernel
theorem dX13_homing_30 : decode cX13_homing 30 = .ok (.getfield 121, 3) := by decide +kernel
theorem dX13_homing_33 : decode cX13_homing 33 = .ok (.imul, 1) := by decide +kernel
theorem dX13_homing_34 : decode cX13_homing 34 = .ok (.aload_n 0, 1) := by decide +kernel
theorem dX13_homing_35 : decode cX13_homing 35 = .ok (.getfield 54, 3) := by decide +kernel
theorem dX13_homing_38 : decode cX13_homing 38 = .ok (.aload_n 0, 1) := by decide +kernel
theorem dX13_homing_39 : decode cX13_homing 39 = .ok (.getfield 121, 3) := by decide +kernel
theorem dX13_homing_42 : decode cX13_homing 42 = .ok (.iaload, 1) := by decide +kernel
theorem dX13_homing_43 : decode cX13_homing 43 = .ok (.iadd, 1) := by decide +kernel
theorem dX13_homing_44 : decode cX13_homing 44 = .ok (.istore_n 1, 1) := by decide +kernel
theorem dX13_homing_45 : decode cX13_homing 45 = .ok (.aload_n 0, 1) := by decide +kernel
theorem dX13_homing_46 : decode cX13_homing 46 = .ok (.getfield 108, 3) := by decide +kernel
theorem dX13_homing_49 : decode cX13_homing 49 = .ok (.iload_n 1, 1) := by decide +kernel
theorem dX13_homing_50 : decode cX13_homing 50 = .ok (.aload_n 0, 1) := by decide +kernel
theorem dX13_homing_51 : decode cX13_homing 51 = .ok (.invokevirtual 397, 3) := by decide +kernel
theorem dX13_homing_54 : decode cX13_homing 54 = .ok (.lastore, 1) := by decide +kernel
theorem dX13_homing_55 : decode cX13_homing 55 = .ok (.aload_n 0, 1) := by decide +kernel
theorem dX13_homing_56 : decode cX13_homing 56 = .ok (.ldc2_w 279, 3) := by decide +kernel
theorem dX13_homing_59 : decode cX13_homing 59 = .ok (.invokevirtual 401, 3) := by decide +kernel
theorem dX13_homing_62 : decode cX13_homing 62 = .ok (.aload_n 0, 1) := by decide +kernel
theorem dX13_homing_63 : decode cX13_homing 63 = .ok (.getfield 57, 3) := by decide +kernel
theorem dX13_homing_66 : decode cX13_homing 66 = .ok (.iload_n 1, 1) := by decide +kernel
theorem dX13_homing_67 : decode cX13_homing 67 = .ok (.aload_n 0, 1) := by decide +kernel
theorem dX13_homing_68 : decode cX13_homing 68 = .ok (.iconst 0, 1) := by decide +kernel
theorem dX13_homing_69 : decode cX13_homing 69 = .ok (.bipush 9, 2) := by decide +kernel
theorem dX13_homing_71 : decode cX13_homing 71 = .ok (.invokevirtual 405, 3) := by decide +kernel
theorem dX13_homing_74 : decode cX13_homing 74 = .ok (.iastore, 1) := by decide +kernel
theorem dX13_homing_75 : decode cX13_homing 75 = .ok (.aload_n 0, 1) := by decide +kernel
theorem dX13_homing_76 : decode cX13_homing 76 = .ok (.ldc2_w 281, 3) := by decide +kernel
theorem dX13_homing_79 : decode cX13_homing 79 = .ok (.invokevirtual 401, 3) := by decide +kernel
theorem dX13_homing_82 : decode cX13_homing 82 = .ok (.aload_n 0, 1) := by decide +kernel
theorem dX13_homing_83 : decode cX13_homing 83 = .ok (.getfield 60, 3) := by decide +kernel
theorem dX13_homing_86 : decode cX13_homing 86 = .ok (.iload_n 1, 1) := by decide +kernel
theorem dX13_homing_87 : decode cX13_homing 87 = .ok (.aload_n 0, 1) := by decide +kernel
theorem dX13_homing_88 : decode cX13_homing 88 = .ok (.iconst 0, 1) := by decide +kernel
theorem dX13_homing_89 : decode cX13_homing 89 = .ok (.bipush 9, 2) := by decide +kernel
theorem dX13_homing_91 : decode cX13_homing 91 = .ok (.invokevirtual 405, 3) := by decide +kernel
theorem dX13_homing_94 : decode cX13_homing 94 = .ok (.iastore, 1) := by decide +kernel
theorem dX13_homing_95 : decode cX13_homing 95 = .ok (.aload_n 0, 1) := by decide +kernel
theorem dX13_homing_96 : decode cX13_homing 96 = .ok (.getfield 36, 3) := by decide +kernel
theorem dX13_homing_99 : decode cX13_homing 99 = .ok (.ifCond .ne 16, 3) := by decide +kernel
theorem dX13_homing_102 : decode cX13_homing 102 = .ok (.aload_n 0, 1) := by decide +kernel
theorem dX13_homing_103 : decode cX13_homing 103 = .ok (.getfield 54, 3) := by decide +kernel
theorem dX13_homing_106 : decode cX13_homing 106 = .ok (.aload_n 0, 1) := by decide +kernel
theorem dX13_homing_107 : decode cX13_homing 107 = .ok (.getfield 121, 3) := by decide +kernel
theorem dX13_homing_110 : decode cX13_homing 110 = .ok (.dup2, 1) := by decide +kernel
theorem dX13_homing_111 : decode cX13_homing 111 = .ok (.iaload, 1) := by decide +kernel
theorem dX13_homing_112 : decode cX13_homing 112 = .ok (.iconst 1, 1) := by decide +kernel
theorem dX13_homing_113 : decode cX13_homing 113 = .ok (.iadd, 1) := by decide +kernel
theorem dX13_homing_114 : decode cX13_homing 114 = .ok (.iastore, 1) := by decide +kernel
theorem dX13_homing_115 : decode cX13_homing 115 = .ok (.return_, 1) := by decide +kernel
theorem dX13_childing_0 : decode cX13_childing 0 = .ok (.aload_n 0, 1) := by decide +kernel
theorem dX13_childing_1 : decode cX13_childing 1 = .ok (.aload_n 0, 1) := by decide +kernel
theorem dX13_childing_2 : decode cX13_childing 2 = .ok (.getfield 63, 3) := by decide +kernel
theorem dX13_childing_5 : decode cX13_childing 5 = .ok (.aload_n 0, 1) := by decide +kernel
theorem dX13_childing_6 : decode cX13_childing 6 = .ok (.getfield 121, 3) := by decide +kernel
theorem dX13_childing_9 : decode cX13_childing 9 = .ok (.iaload, 1) := by decide +kernel
theorem dX13_childing_10 : decode cX13_childing 10 = .ok (.bipush 8, 2) := by decide +kernel
theorem dX13_childing_12 : decode cX13_childing 12 = .ok (.if_icmp .ne 7, 3) := by decide +kernel
theorem dX13_childing_15 : decode cX13_childing 15 = .ok (.iconst 1, 1) := by decide +kernel
theorem dX13_childing_16 : decode cX13_childing 16 = .ok (.goto 4, 3) := by decide +kernel
theorem dX13_childing_19 : decode cX13_childing 19 = .ok (.iconst 0, 1) := by decide +kernel
theorem dX13_childing_20 : decode cX13_childing 20 = .ok (.invokevirtual 393, 3) := by decide +kernel
theorem dX13_childing_23 : decode cX13_childing 23 = .ok (.ifCond .ne 4, 3) := by decide +kernel
theorem dX13_childing_26 : decode cX13_childing 26 = .ok (.return_, 1) := by decide +kernel
theorem dX13_childing_27 : decode cX13_childing 27 = .ok (.bipush 8, 2) := by decide +kernel
theorem dX13_childing_29 : decode cX13_childing 29 = .ok (.aload_n 0, 1) := by decide +kernel
theorem dX13_childing_30 : decode cX13_childing 30 = .ok (.getfield 121, 3) := by decide +kernel
theorem dX13_childing_33 : decode cX13_childing 33 = .ok (.imul, 1) := by decide +kernel
theorem dX13_childing_34 : decode cX13_childing 34 = .ok (.aload_n 0, 1) := by decide +kernel
theorem dX13_childing_35 : decode cX13_childing 35 = .ok (.getfield 63, 3) := by decide +kernel
theorem dX13_childing_38 : decode cX13_childing 38 = .ok (.aload_n 0, 1) := by decide +kernel
theorem dX13_childing_39 : decode cX13_childing 39 = .ok (.getfield 121, 3) := by decide +kernel
theorem dX13_childing_42 : decode cX13_childing 42 = .ok (.iaload, 1) := by decide +kernel
theorem dX13_childing_43 : decode cX13_childing 43 = .ok (.iadd, 1) := by decide +kernel
theorem dX13_childing_44 : decode cX13_childing 44 = .ok (.istore_n 1, 1) := by decide +kernel
theorem dX13_childing_45 : decode cX13_childing 45 = .ok (.aload_n 0, 1) := by decide +kernel
theorem dX13_childing_46 : decode cX13_childing 46 = .ok (.getfield 112, 3) := by decide +kernel
theorem dX13_childing_49 : decode cX13_childing 49 = .ok (.iload_n 1, 1) := by decide +kernel
theorem dX13_childing_50 : decode cX13_childing 50 = .ok (.aload_n 0, 1) := by decide +kernel
theorem dX13_childing_51 : decode cX13_childing 51 = .ok (.invokevirtual 397, 3) := by decide +kernel
theorem dX13_childing_54 : decode cX13_childing 54 = .ok (.lastore, 1) := by decide +kernel
theorem dX13_childing_55 : decode cX13_childing 55 = .ok (.aload_n 0, 1) := by decide +kernel
theorem dX13_childing_56 : decode cX13_childing 56 = .ok (.ldc2_w 285, 3) := by decide +kernel
theorem dX13_childing_59 : decode cX13_childing 59 = .ok (.invokevirtual 401, 3) := by decide +kernel
theorem dX13_childing_62 : decode cX13_childing 62 = .ok (.aload_n 0, 1) := by decide +kernel
theorem dX13_childing_63 : decode cX13_childing 63 = .ok (.getfield 66, 3) := by decide +kernel
theorem dX13_childing_66 : decode cX13_childing 66 = .ok (.iload_n 1, 1) := by decide +kernel
theorem dX13_childing_67 : decode cX13_childing 67 = .ok (.aload_n 0, 1) := by decide +kernel
theorem dX13_childing_68 : decode cX13_childing 68 = .ok (.iconst 0, 1) := by decide +kernel
theorem dX13_childing_69 : decode cX13_childing 69 = .ok (.iconst 0, 1) := by decide +kernel
theorem dX13_childing_70 : decode cX13_childing 70 = .ok (.invokevirtual 408, 3) := by decide +kernel
theorem dX13_childing_73 : decode cX13_childing 73 = .ok (.iastore, 1) := by decide +kernel
theorem dX13_childing_74 : decode cX13_childing 74 = .ok (.aload_n 0, 1) := by decide +kernel
theorem dX13_childing_75 : decode cX13_childing 75 = .ok (.ldc2_w 287, 3) := by decide +kernel
theorem dX13_childing_78 : decode cX13_childing 78 = .ok (.invokevirtual 401, 3) := by decide +kernel
theorem dX13_childing_81 : decode cX13_childing 81 = .ok (.aload_n 0, 1) := by decide +kernel
theorem dX13_childing_82 : decode cX13_childing 82 = .ok (.getfield 69, 3) := by decide +kernel
theorem dX13_childing_85 : decode cX13_childing 85 = .ok (.iload_n 1, 1) := by decide +kernel
theorem dX13_childing_86 : decode cX13_childing 86 = .ok (.aload_n 0, 1) := by decide +kernel
theorem dX13_childing_87 : decode cX13_childing 87 = .ok (.iconst 0, 1) := by decide +kernel
theorem dX13_childing_88 : decode cX13_childing 88 = .ok (.bipush 99, 2) := by decide +kernel
theorem dX13_childing_90 : decode cX13_childing 90 = .ok (.invokevirtual 405, 3) := by decide +kernel
theorem dX13_childing_93 : decode cX13_childing 93 = .ok (.iastore, 1) := by decide +kernel
theorem dX13_childing_94 : decode cX13_childing 94 = .ok (.aload_n 0, 1) := by decide +kernel
theorem dX13_childing_95 : decode cX13_childing 95 = .ok (.getfield 72, 3) := by decide +kernel
theorem dX13_childing_98 : decode cX13_childing 98 = .ok (.iload_n 1, 1) := by decide +kernel
theorem dX13_childing_99 : decode cX13_childing 99 = .ok (.iconst (-1), 1) := by decide +kernel
theorem dX13_childing_100 : decode cX13_childing 100 = .ok (.iastore, 1) := by decide +kernel
theorem dX13_childing_101 : decode cX13_childing 101 = .ok (.aload_n 0, 1) := by decide +kernel
theorem dX13_childing_102 : decode cX13_childing 102 = .ok (.getfield 36, 3) := by decide +kernel
theorem dX13_childing_105 : decode cX13_childing 105 = .ok (.ifCond .ne 16, 3) := by decide +kernel
theorem dX13_childing_108 : decode cX13_childing 108 = .ok (.aload_n 0, 1) := by decide +kernel
theorem dX13_childing_109 : decode cX13_childing 109 = .ok (.getfield 63, 3) := by decide +kernel
theorem dX13_childing_112 : decode cX13_childing 112 = .ok (.aload_n 0, 1) := by decide +kernel
theorem dX13_childing_113 : decode cX13_childing 113 = .ok (.getfield 121, 3) := by decide +kernel
theorem dX13_childing_116 : decode cX13_childing 116 = .ok (.dup2, 1) := by decide +kernel
theorem dX13_childing_117 : decode cX13_childing 117 = .ok (.iaload, 1) := by decide +kernel
theorem dX13_childing_118 : decode cX13_childing 118 = .ok (.iconst 1, 1) := by decide +kernel
theorem dX13_childing_119 : decode cX13_childing 119 = .ok (.iadd, 1) := by decide +kernel
theorem dX13_childing_120 : decode cX13_childing 120 = .ok (.iastore, 1) := by decide +kernel
theorem dX13_childing_121 : decode cX13_childing 121 = .ok (.return_, 1) := by decide +kernel
theorem dX13_twins_0 : decode cX13_twins 0 = .ok (.iconst 0, 1) := by decide +kernel
theorem dX13_twins_1 : decode cX13_twins 1 = .ok (.istore_n 1, 1) := by decide +kernel
theorem dX13_twins_2 : decode cX13_twins 2 = .ok (.iconst 0, 1) := by decide +kernel
theorem dX13_twins_3 : decode cX13_twins 3 = .ok (.istore_n 2, 1) := by decide +kernel
theorem dX13_twins_4 : decode cX13_twins 4 = .ok (.iload_n 2, 1) := by decide +kernel
theorem dX13_twins_5 : decode cX13_twins 5 = .ok (.aload_n 0, 1) := by decide +kernel
theorem dX13_twins_6 : decode cX13_twins 6 = .ok (.getfield 63, 3) := by decide +kernel
theorem dX13_twins_9 : decode cX13_twins 9 = .ok (.aload_n 0, 1) := by decide +kernel
theorem dX13_twins_10 : decode cX13_twins 10 = .ok (.getfield 121, 3) := by decide +kernel
theorem dX13_twins_13 : decode cX13_twins 13 = .ok (.iaload, 1) := by decide +kernel
theorem dX13_twins_14 : decode cX13_twins 14 = .ok (.if_icmp .ge 37, 3) := by decide +kernel
theorem dX13_twins_17 : decode cX13_twins 17 = .ok (.iload_n 1, 1) := by decide +kernel
theorem dX13_twins_18 : decode cX13_twins 18 = .ok (.aload_n 0, 1) := by decide +kernel
theorem dX13_twins_19 : decode cX13_twins 19 = .ok (.getfield 72, 3) := by decide +kernel
theorem dX13_twins_22 : decode cX13_twins 22 = .ok (.bipush 8, 2) := by decide +kernel
theorem dX13_twins_24 : decode cX13_twins 24 = .ok (.aload_n 0, 1) := by decide +kernel
theorem dX13_twins_25 : decode cX13_twins 25 = .ok (.getfield 121, 3) := by decide +kernel
theorem dX13_twins_28 : decode cX13_twins 28 = .ok (.imul, 1) := by decide +kernel
theorem dX13_twins_29 : decode cX13_twins 29 = .ok (.iload_n 2, 1) := by decide +kernel
theorem dX13_twins_30 : decode cX13_twins 30 = .ok (.iadd, 1) := by decide +kernel
theorem dX13_twins_31 : decode cX13_twins 31 = .ok (.iaload, 1) := by decide +kernel
theorem dX13_twins_32 : decode cX13_twins 32 = .ok (.iconst (-1), 1) := by decide +kernel
theorem dX13_twins_33 : decode cX13_twins 33 = .ok (.if_icmp .ne 7, 3) := by decide +kernel
theorem dX13_twins_36 : decode cX13_twins 36 = .ok (.iconst 0, 1) := by decide +kernel
theorem dX13_twins_37 : decode cX13_twins 37 = .ok (.goto 6, 3) := by decide +kernel
theorem dX13_twins_40 : decode cX13_twins 40 = .ok (.iconst 1, 1) := by decide +kernel
theorem dX13_twins_41 : decode cX13_twins 41 = .ok (.iload_n 2, 1) := by decide +kernel
theorem dX13_twins_42 : decode cX13_twins 42 = .ok (.ishl, 1) := by decide +kernel
theorem dX13_twins_43 : decode cX13_twins 43 = .ok (.ior, 1) := by decide +kernel
theorem dX13_twins_44 : decode cX13_twins 44 = .ok (.istore_n 1, 1) := by decide +kernel
theorem dX13_twins_45 : decode cX13_twins 45 = .ok (.iinc 2 1, 3) := by decide +kernel
theorem dX13_twins_48 : decode cX13_twins 48 = .ok (.goto (-44), 3) := by decide +kernel
theorem dX13_twins_51 : decode cX13_twins 51 = .ok (.iload_n 1, 1) := by decide +kernel
theorem dX13_twins_52 : decode cX13_twins 52 = .ok (.ireturn, 1) := by decide +kernel
theorem dX13_twinning_0 : decode cX13_twinning 0 = .ok (.aload_n 0, 1) := by decide +kernel
theorem dX13_twinning_1 : decode cX13_twinning 1 = .ok (.iconst 0, 1) := by decide +kernel
theorem dX13_twinning_2 : decode cX13_twinning 2 = .ok (.invokevirtual 393, 3) := by decide +kernel
theorem dX13_twinning_5 : decode cX13_twinning 5 = .ok (.ifCond .ne 4, 3) := by decide +kernel
theorem dX13_twinning_8 : decode cX13_twinning 8 = .ok (.return_, 1) := by decide +kernel
theorem dX13_twinning_9 : decode cX13_twinning 9 = .ok (.aload_n 0, 1) := by decide +kernel
theorem dX13_twinning_10 : decode cX13_twinning 10 = .ok (.iconst 1, 1) := by decide +kernel
theorem dX13_twinning_11 : decode cX13_twinning 11 = .ok (.aload_n 0, 1) := by decide +kernel
theorem dX13_twinning_12 : decode cX13_twinning 12 = .ok (.invokevirtual 411, 3) := by decide +kernel
theorem dX13_twinning_15 : decode cX13_twinning 15 = .ok (.invokevirtual 408, 3) := by decide +kernel
theorem dX13_twinning_18 : decode cX13_twinning 18 = .ok (.istore_n 1, 1) := by decide +kernel
theorem dX13_twinning_19 : decode cX13_twinning 19 = .ok (.aload_n 0, 1) := by decide +kernel
theorem dX13_twinning_20 : decode cX13_twinning 20 = .ok (.iconst 1, 1) := by decide +kernel
theorem dX13_twinning_21 : decode cX13_twinning 21 = .ok (.aload_n 0, 1) := by decide +kernel
theorem dX13_twinning_22 : decode cX13_twinning 22 = .ok (.invokevirtual 411, 3) := by decide +kernel
theorem dX13_twinning_25 : decode cX13_twinning 25 = .ok (.iconst 1, 1) := by decide +kernel
theorem dX13_twinning_26 : decode cX13_twinning 26 = .ok (.iload_n 1, 1) := by decide +kernel
theorem dX13_twinning_27 : decode cX13_twinning 27 = .ok (.ishl, 1) := by decide +kernel
theorem dX13_twinning_28 : decode cX13_twinning 28 = .ok (.ior, 1) := by decide +kernel
theorem dX13_twinning_29 : decode cX13_twinning 29 = .ok (.invokevirtual 408, 3) := by decide +kernel
theorem dX13_twinning_32 : decode cX13_twinning 32 = .ok (.istore_n 2, 1) := by decide +kernel
theorem dX13_twinning_33 : decode cX13_twinning 33 = .ok (.aload_n 0, 1) := by decide +kernel
theorem dX13_twinning_34 : decode cX13_twinning 34 = .ok (.getfield 36, 3) := by decide +kernel
theorem dX13_twinning_37 : decode cX13_twinning 37 = .ok (.ifCond .le 4, 3) := by decide +kernel
theorem dX13_twinning_40 : decode cX13_twinning 40 = .ok (.return_, 1) := by decide +kernel
theorem dX13_twinning_41 : decode cX13_twinning 41 = .ok (.aload_n 0, 1) := by decide +kernel
theorem dX13_twinning_42 : decode cX13_twinning 42 = .ok (.getfield 72, 3) := by decide +kernel
theorem dX13_twinning_45 : decode cX13_twinning 45 = .ok (.bipush 8, 2) := by decide +kernel
theorem dX13_twinning_47 : decode cX13_twinning 47 = .ok (.aload_n 0, 1) := by decide +kernel
theorem dX13_twinning_48 : decode cX13_twinning 48 = .ok (.getfield 121, 3) := by decide +kernel
theorem dX13_twinning_51 : decode cX13_twinning 51 = .ok (.imul, 1) := by decide +kernel
theorem dX13_twinning_52 : decode cX13_twinning 52 = .ok (.iload_n 1, 1) := by decide +kernel
theorem dX13_twinning_53 : decode cX13_twinning 53 = .ok (.iadd, 1) := by decide +kernel
theorem dX13_twinning_54 : decode cX13_twinning 54 = .ok (.iload_n 2, 1) := by decide +kernel
theorem dX13_twinning_55 : decode cX13_twinning 55 = .ok (.iastore, 1) := by decide +kernel
theorem dX13_twinning_56 : decode cX13_twinning 56 = .ok (.aload_n 0, 1) := by decide +kernel
theorem dX13_twinning_57 : decode cX13_twinning 57 = .ok (.getfield 72, 3) := by decide +kernel
theorem dX13_twinning_60 : decode cX13_twinning 60 = .ok (.bipush 8, 2) := by decide +kernel
theorem dX13_twinning_62 : decode cX13_twinning 62 = .ok (.aload_n 0, 1) := by decide +kernel
theorem dX13_twinning_63 : decode cX13_twinning 63 = .ok (.getfield 121, 3) := by decide +kernel
theorem dX13_twinning_66 : decode cX13_twinning 66 = .ok (.imul, 1) := by decide +kernel
theorem dX13_twinning_67 : decode cX13_twinning 67 = .ok (.iload_n 2, 1) := by decide +kernel
theorem dX13_twinning_68 : decode cX13_twinning 68 = .ok (.iadd, 1) := by decide +kernel
theorem dX13_twinning_69 : decode cX13_twinning 69 = .ok (.iload_n 1, 1) := by decide +kernel
theorem dX13_twinning_70 : decode cX13_twinning 70 = .ok (.iastore, 1) := by decide +kernel
theorem dX13_twinning_71 : decode cX13_twinning 71 = .ok (.return_, 1) := by decide +kernel
theorem dX13_feuding_0 : decode cX13_feuding 0 = .ok (.iconst 0, 1) := by decide +kernel
theorem dX13_feuding_1 : decode cX13_feuding 1 = .ok (.istore 4, 2) := by decide +kernel
theorem dX13_feuding_3 : decode cX13_feuding 3 = .ok (.iconst 0, 1) := by decide +kernel
theorem dX13_feuding_4 : decode cX13_feuding 4 = .ok (.istore 5, 2) := by decide +kernel
theorem dX13_feuding_6 : decode cX13_feuding 6 = .ok (.iload 5, 2) := by decide +kernel
theorem dX13_feuding_8 : decode cX13_feuding 8 = .ok (.aload_n 0, 1) := by decide +kernel
theorem dX13_feuding_9 : decode cX13_feuding 9 = .ok (.getfield 75, 3) := by decide +kernel
theorem dX13_feuding_12 : decode cX13_feuding 12 = .ok (.iload_n 1, 1) := by decide +kernel
theorem dX13_feuding_13 : decode cX13_feuding 13 = .ok (.iaload, 1) := by decide +kernel
theorem dX13_feuding_14 : decode cX13_feuding 14 = .ok (.if_icmp .ge 99, 3) := by decide +kernel
theorem dX13_feuding_17 : decode cX13_feuding 17 = .ok (.iload_n 3, 1) := by decide +kernel
theorem dX13_feuding_18 : decode cX13_feuding 18 = .ok (.iload 5, 2) := by decide +kernel
theorem dX13_feuding_20 : decode cX13_feuding 20 = .ok (.invokestatic 389, 3) := by decide +kernel
theorem dX13_feuding_23 : decode cX13_feuding 23 = .ok (.ifCond .eq 6, 3) := by decide +kernel
theorem dX13_feuding_26 : decode cX13_feuding 26 = .ok (.goto 81, 3) := by decide +kernel
theorem dX13_feuding_29 : decode cX13_feuding 29 = .ok (.iload 4, 2) := by decide +kernel
theorem dX13_feuding_31 : decode cX13_feuding 31 = .ok (.aload_n 0, 1) := by decide +kernel
theorem dX13_feuding_32 : decode cX13_feuding 32 = .ok (.getfield 78, 3) := by decide +kernel
theorem dX13_feuding_35 : decode cX13_feuding 35 = .ok (.bipush 10, 2) := by decide +kernel
theorem dX13_feuding_37 : decode cX13_feuding 37 = .ok (.iload_n 1, 1) := by decide +kernel
theorem dX13_feuding_38 : decode cX13_feuding 38 = .ok (.imul, 1) := by decide +kernel
theorem dX13_feuding_39 : decode cX13_feuding 39 = .ok (.iload 5, 2) := by decide +kernel
theorem dX13_feuding_41 : decode cX13_feuding 41 = .ok (.iadd, 1) := by decide +kernel
theorem dX13_feuding_42 : decode cX13_feuding 42 = .ok (.iaload, 1) := by decide +kernel
theorem dX13_feuding_43 : decode cX13_feuding 43 = .ok (.iload_n 2, 1) := by decide +kernel
theorem dX13_feuding_44 : decode cX13_feuding 44 = .ok (.if_icmp .ne 20, 3) := by decide +kernel
theorem dX13_feuding_47 : decode cX13_feuding 47 = .ok (.iconst 1, 1) := by decide +kernel
theorem dX13_feuding_48 : decode cX13_feuding 48 = .ok (.aload_n 0, 1) := by decide +kernel
theorem dX13_feuding_49 : decode cX13_feuding 49 = .ok (.getfield 81, 3) := by decide +kernel
theorem dX13_feuding_52 : decode cX13_feuding 52 = .ok (.bipush 10, 2) := by decide +kernel
theorem dX13_feuding_54 : decode cX13_feuding 54 = .ok (.iload_n 1, 1) := by decide +kernel
theorem dX13_feuding_55 : decode cX13_feuding 55 = .ok (.imul, 1) := by decide +kernel
theorem dX13_feuding_56 : decode cX13_feuding 56 = .ok (.iload 5, 2) := by decide +kernel
theorem dX13_feuding_58 : decode cX13_feuding 58 = .ok (.iadd, 1) := by decide +kernel
theorem dX13_feuding_59 : decode cX13_feuding 59 = .ok (.iaload, 1) := by decide +kernel
theorem dX13_feuding_60 : decode cX13_feuding 60 = .ok (.ishl, 1) := by decide +kernel
theorem dX13_feuding_61 : decode cX13_feuding 61 = .ok (.goto 4, 3) := by decide +kernel
theorem dX13_feuding_64 : decode cX13_feuding 64 = .ok (.iconst 0, 1) := by decide +kernel
theorem dX13_feuding_65 : decode cX13_feuding 65 = .ok (.ior, 1) := by decide +kernel
theorem dX13_feuding_66 : decode cX13_feuding 66 = .ok (.istore 4, 2) := by decide +kernel
theorem dX13_feuding_68 : decode cX13_feuding 68 = .ok (.iload 4, 2) := by decide +kernel
theorem dX13_feuding_70 : decode cX13_feuding 70 = .ok (.aload_n 0, 1) := by decide +kernel
theorem dX13_feuding_71 : decode cX13_feuding 71 = .ok (.getfield 81, 3) := by decide +kernel
theorem dX13_feuding_74 : decode cX13_feuding 74 = .ok (.bipush 10, 2) := by decide +kernel
theorem dX13_feuding_76 : decode cX13_feuding 76 = .ok (.iload_n 1, 1) := by decide +kernel
theorem dX13_feuding_77 : decode cX13_feuding 77 = .ok (.imul, 1) := by decide +kernel
theorem dX13_feuding_78 : decode cX13_feuding 78 = .ok (.iload 5, 2) := by decide +kernel
theorem dX13_feuding_80 : decode cX13_feuding 80 = .ok (.iadd, 1) := by decide +kernel
theorem dX13_feuding_81 : decode cX13_feuding 81 = .ok (.iaload, 1) := by decide +kernel
theorem dX13_feuding_82 : decode cX13_feuding 82 = .ok (.iload_n 2, 1) := by decide +kernel
theorem dX13_feuding_83 : decode cX13_feuding 83 = .ok (.if_icmp .ne 20, 3) := by decide +kernel
theorem dX13_feuding_86 : decode cX13_feuding 86 = .ok (.iconst 1, 1) := by decide +kernel
theorem dX13_feuding_87 : decode cX13_feuding 87 = .ok (.aload_n 0, 1) := by decide +kernel
theorem dX13_feuding_88 : decode cX13_feuding 88 = .ok (.getfield 78, 3) := by decide +kernel
theorem dX13_feuding_91 : decode cX13_feuding 91 = .ok (.bipush 10, 2) := by decide +kernel
theorem dX13_feuding_93 : decode cX13_feuding 93 = .ok (.iload_n 1, 1) := by decide +kernel
theorem dX13_feuding_94 : decode cX13_feuding 94 = .ok (.imul, 1) := by decide +kernel
theorem dX13_feuding_95 : decode cX13_feuding 95 = .ok (.iload 5, 2) := by decide +kernel
theorem dX13_feuding_97 : decode cX13_feuding 97 = .ok (.iadd, 1) := by decide +kernel
theorem dX13_feuding_98 : decode cX13_feuding 98 = .ok (.iaload, 1) := by decide +kernel
theorem dX13_feuding_99 : decode cX13_feuding 99 = .ok (.ishl, 1) := by decide +kernel
theorem dX13_feuding_100 : decode cX13_feuding 100 = .ok (.goto 4, 3) := by decide +kernel
theorem dX13_feuding_103 : decode cX13_feuding 103 = .ok (.iconst 0, 1) := by decide +kernel
theorem dX13_feuding_104 : decode cX13_feuding 104 = .ok (.ior, 1) := by decide +kernel
theorem dX13_feuding_105 : decode cX13_feuding 105 = .ok (.istore 4, 2) := by decide +kernel
theorem dX13_feuding_107 : decode cX13_feuding 107 = .ok (.iinc 5 1, 3) := by decide +kernel
theorem dX13_feuding_110 : decode cX13_feuding 110 = .ok (.goto (-104), 3) := by decide +kernel
theorem dX13_feuding_113 : decode cX13_feuding 113 = .ok (.iload 4, 2) := by decide +kernel
theorem dX13_feuding_115 : decode cX13_feuding 115 = .ok (.ireturn, 1) := by decide +kernel
theorem dX13_feuds_0 : decode cX13_feuds 0 = .ok (.aload_n 0, 1) := by decide +kernel
theorem dX13_feuds_1 : decode cX13_feuds 1 = .ok (.aload_n 0, 1) := by decide +kernel
theorem dX13_feuds_2 : decode cX13_feuds 2 = .ok (.getfield 75, 3) := by decide +kernel
theorem dX13_feuds_5 : decode cX13_feuds 5 = .ok (.aload_n 0, 1) := by decide +kernel
theorem dX13_feuds_6 : decode cX13_feuds 6 = .ok (.getfield 121, 3) := by decide +kernel
theorem dX13_feuds_9 : decode cX13_feuds 9 = .ok (.iaload, 1) := by decide +kernel
theorem dX13_feuds_10 : decode cX13_feuds 10 = .ok (.bipush 10, 2) := by decide +kernel
theorem dX13_feuds_12 : decode cX13_feuds 12 = .ok (.if_icmp .ne 7, 3) := by decide +kernel
theorem dX13_feuds_15 : decode cX13_feuds 15 = .ok (.iconst 1, 1) := by decide +kernel
theorem dX13_feuds_16 : decode cX13_feuds 16 = .ok (.goto 4, 3) := by decide +kernel
theorem dX13_feuds_19 : decode cX13_feuds 19 = .ok (.iconst 0, 1) := by decide +kernel
theorem dX13_feuds_20 : decode cX13_feuds 20 = .ok (.invokevirtual 393, 3) := by decide +kernel
theorem dX13_feuds_23 : decode cX13_feuds 23 = .ok (.ifCond .ne 4, 3) := by decide +kernel
theorem dX13_feuds_26 : decode cX13_feuds 26 = .ok (.return_, 1) := by decide +kernel
theorem dX13_feuds_27 : decode cX13_feuds 27 = .ok (.bipush 10, 2) := by decide +kernel
theorem dX13_feuds_29 : decode cX13_feuds 29 = .ok (.aload_n 0, 1) := by decide +kernel
theorem dX13_feuds_30 : decode cX13_feuds 30 = .ok (.getfield 121, 3) := by decide +kernel
theorem dX13_feuds_33 : decode cX13_feuds 33 = .ok (.imul, 1) := by decide +kernel
theorem dX13_feuds_34 : decode cX13_feuds 34 = .ok (.aload_n 0, 1) := by decide +kernel
theorem dX13_feuds_35 : decode cX13_feuds 35 = .ok (.getfield 75, 3) := by decide +kernel
theorem dX13_feuds_38 : decode cX13_feuds 38 = .ok (.aload_n 0, 1) := by decide +kernel
theorem dX13_feuds_39 : decode cX13_feuds 39 = .ok (.getfield 121, 3) := by decide +kernel
theorem dX13_feuds_42 : decode cX13_feuds 42 = .ok (.iaload, 1) := by decide +kernel
theorem dX13_feuds_43 : decode cX13_feuds 43 = .ok (.iadd, 1) := by decide +kernel
theorem dX13_feuds_44 : decode cX13_feuds 44 = .ok (.istore_n 1, 1) := by decide +kernel
theorem dX13_feuds_45 : decode cX13_feuds 45 = .ok (.aload_n 0, 1) := by decide +kernel
theorem dX13_feuds_46 : decode cX13_feuds 46 = .ok (.iconst 1, 1) := by decide +kernel
theorem dX13_feuds_47 : decode cX13_feuds 47 = .ok (.iconst 0, 1) := by decide +kernel
theorem dX13_feuds_48 : decode cX13_feuds 48 = .ok (.invokevirtual 408, 3) := by decide +kernel
theorem dX13_feuds_51 : decode cX13_feuds 51 = .ok (.istore_n 2, 1) := by decide +kernel
theorem dX13_feuds_52 : decode cX13_feuds 52 = .ok (.aload_n 0, 1) := by decide +kernel
theorem dX13_feuds_53 : decode cX13_feuds 53 = .ok (.iconst 1, 1) := by decide +kernel
theorem dX13_feuds_54 : decode cX13_feuds 54 = .ok (.aload_n 0, 1) := by decide +kernel
theorem dX13_feuds_55 : decode cX13_feuds 55 = .ok (.getfield 36, 3) := by decide +kernel
theorem dX13_feuds_58 : decode cX13_feuds 58 = .ok (.ifCond .le 7, 3) := by decide +kernel
theorem dX13_feuds_61 : decode cX13_feuds 61 = .ok (.iconst 0, 1) := by decide +kernel
theorem dX13_feuds_62 : decode cX13_feuds 62 = .ok (.goto 17, 3) := by decide +kernel
theorem dX13_feuds_65 : decode cX13_feuds 65 = .ok (.aload_n 0, 1) := by decide +kernel
theorem dX13_feuds_66 : decode cX13_feuds 66 = .ok (.aload_n 0, 1) := by decide +kernel
theorem dX13_feuds_67 : decode cX13_feuds 67 = .ok (.getfield 121, 3) := by decide +kernel
theorem dX13_feuds_70 : decode cX13_feuds 70 = .ok (.iload_n 2, 1) := by decide +kernel
theorem dX13_feuds_71 : decode cX13_feuds 71 = .ok (.iconst 0, 1) := by decide +kernel
theorem dX13_feuds_72 : decode cX13_feuds 72 = .ok (.invokevirtual 415, 3) := by decide +kernel
theorem dX13_feuds_75 : decode cX13_feuds 75 = .ok (.iconst 1, 1) := by decide +kernel
theorem dX13_feuds_76 : decode cX13_feuds 76 = .ok (.iload_n 2, 1) := by decide +kernel
theorem dX13_feuds_77 : decode cX13_feuds 77 = .ok (.ishl, 1) := by decide +kernel
theorem dX13_feuds_78 : decode cX13_feuds 78 = .ok (.ior, 1) := by decide +kernel
theorem dX13_feuds_79 : decode cX13_feuds 79 = .ok (.invokevirtual 408, 3) := by decide +kernel
theorem dX13_feuds_82 : decode cX13_feuds 82 = .ok (.istore_n 3, 1) := by decide +kernel
theorem dX13_feuds_83 : decode cX13_feuds 83 = .ok (.aload_n 0, 1) := by decide +kernel
theorem dX13_feuds_84 : decode cX13_feuds 84 = .ok (.getfield 36, 3) := by decide +kernel
theorem dX13_feuds_87 : decode cX13_feuds 87 = .ok (.ifCond .le 4, 3) := by decide +kernel
theorem dX13_feuds_90 : decode cX13_feuds 90 = .ok (.return_, 1) := by decide +kernel
theorem dX13_feuds_91 : decode cX13_feuds 91 = .ok (.aload_n 0, 1) := by decide +kernel
theorem dX13_feuds_92 : decode cX13_feuds 92 = .ok (.getfield 78, 3) := by decide +kernel
theorem dX13_feuds_95 : decode cX13_feuds 95 = .ok (.iload_n 1, 1) := by decide +kernel
theorem dX13_feuds_96 : decode cX13_feuds 96 = .ok (.iload_n 2, 1) := by decide +kernel
theorem dX13_feuds_97 : decode cX13_feuds 97 = .ok (.iastore, 1) := by decide +kernel
theorem dX13_feuds_98 : decode cX13_feuds 98 = .ok (.aload_n 0, 1) := by decide +kernel
theorem dX13_feuds_99 : decode cX13_feuds 99 = .ok (.getfield 81, 3) := by decide +kernel
theorem dX13_feuds_102 : decode cX13_feuds 102 = .ok (.iload_n 1, 1) := by decide +kernel
theorem dX13_feuds_103 : decode cX13_feuds 103 = .ok (.iload_n 3, 1) := by decide +kernel
theorem dX13_feuds_104 : decode cX13_feuds 104 = .ok (.iastore, 1) := by decide +kernel
theorem dX13_feuds_105 : decode cX13_feuds 105 = .ok (.aload_n 0, 1) := by decide +kernel
theorem dX13_feuds_106 : decode cX13_feuds 106 = .ok (.getfield 75, 3) := by decide +kernel
theorem dX13_feuds_109 : decode cX13_feuds 109 = .ok (.aload_n 0, 1) := by decide +kernel
theorem dX13_feuds_110 : decode cX13_feuds 110 = .ok (.getfield 121, 3) := by decide +kernel
theorem dX13_feuds_113 : decode cX13_feuds 113 = .ok (.dup2, 1) := by decide +kernel
theorem dX13_feuds_114 : decode cX13_feuds 114 = .ok (.iaload, 1) := by decide +kernel
theorem dX13_feuds_115 : decode cX13_feuds 115 = .ok (.iconst 1, 1) := by decide +kernel
theorem dX13_feuds_116 : decode cX13_feuds 116 = .ok (.iadd, 1) := by decide +kernel
theorem dX13_feuds_117 : decode cX13_feuds 117 = .ok (.iastore, 1) := by decide +kernel
theorem dX13_feuds_118 : decode cX13_feuds 118 = .ok (.return_, 1) := by decide +kernel
theorem dX13_walling_0 : decode cX13_walling 0 = .ok (.aload_n 0, 1) := by decide +kernel
theorem dX13_walling_1 : decode cX13_walling 1 = .ok (.aload_n 0, 1) := by decide +kernel
theorem dX13_walling_2 : decode cX13_walling 2 = .ok (.getfield 84, 3) := by decide +kernel
theorem dX13_walling_5 : decode cX13_walling 5 = .ok (.aload_n 0, 1) := by decide +kernel
theorem dX13_walling_6 : decode cX13_walling 6 = .ok (.getfield 121, 3) := by decide +kernel
theorem dX13_walling_9 : decode cX13_walling 9 = .ok (.iaload, 1) := by decide +kernel
theorem dX13_walling_10 : decode cX13_walling 10 = .ok (.iconst 4, 1) := by decide +kernel
theorem dX13_walling_11 : decode cX13_walling 11 = .ok (.if_icmp .ne 7, 3) := by decide +kernel
theorem dX13_walling_14 : decode cX13_walling 14 = .ok (.iconst 1, 1) := by decide +kernel
theorem dX13_walling_15 : decode cX13_walling 15 = .ok (.goto 4, 3) := by decide +kernel
theorem dX13_walling_18 : decode cX13_walling 18 = .ok (.iconst 0, 1) := by decide +kernel
theorem dX13_walling_19 : decode cX13_walling 19 = .ok (.invokevirtual 393, 3) := by decide +kernel
theorem dX13_walling_22 : decode cX13_walling 22 = .ok (.ifCond .ne 4, 3) := by decide +kernel
theorem dX13_walling_25 : decode cX13_walling 25 = .ok (.return_, 1) := by decide +kernel
theorem dX13_walling_26 : decode cX13_walling 26 = .ok (.iconst 4, 1) := by decide +kernel
theorem dX13_walling_27 : decode cX13_walling 27 = .ok (.aload_n 0, 1) := by decide +kernel
theorem dX13_walling_28 : decode cX13_walling 28 = .ok (.getfield 121, 3) := by decide +kernel
theorem dX13_walling_31 : decode cX13_walling 31 = .ok (.imul, 1) := by decide +kernel
theorem dX13_walling_32 : decode cX13_walling 32 = .ok (.aload_n 0, 1) := by decide +kernel
theorem dX13_walling_33 : decode cX13_walling 33 = .ok (.getfield 84, 3) := by decide +kernel
theorem dX13_walling_36 : decode cX13_walling 36 = .ok (.aload_n 0, 1) := by decide +kernel
theorem dX13_walling_37 : decode cX13_walling 37 = .ok (.getfield 121, 3) := by decide +kernel
theorem dX13_walling_40 : decode cX13_walling 40 = .ok (.iaload, 1) := by decide +kernel
theorem dX13_walling_41 : decode cX13_walling 41 = .ok (.iadd, 1) := by decide +kernel
theorem dX13_walling_42 : decode cX13_walling 42 = .ok (.istore_n 1, 1) := by decide +kernel
theorem dX13_walling_43 : decode cX13_walling 43 = .ok (.aload_n 0, 1) := by decide +kernel
theorem dX13_walling_44 : decode cX13_walling 44 = .ok (.getfield 115, 3) := by decide +kernel
theorem dX13_walling_47 : decode cX13_walling 47 = .ok (.iload_n 1, 1) := by decide +kernel
theorem dX13_walling_48 : decode cX13_walling 48 = .ok (.aload_n 0, 1) := by decide +kernel
theorem dX13_walling_49 : decode cX13_walling 49 = .ok (.invokevirtual 397, 3) := by decide +kernel
theorem dX13_walling_52 : decode cX13_walling 52 = .ok (.lastore, 1) := by decide +kernel
theorem dX13_walling_53 : decode cX13_walling 53 = .ok (.aload_n 0, 1) := by decide +kernel
theorem dX13_walling_54 : decode cX13_walling 54 = .ok (.ldc2_w 295, 3) := by decide +kernel
theorem dX13_walling_57 : decode cX13_walling 57 = .ok (.invokevirtual 401, 3) := by decide +kernel
theorem dX13_walling_60 : decode cX13_walling 60 = .ok (.aload_n 0, 1) := by decide +kernel
theorem dX13_walling_61 : decode cX13_walling 61 = .ok (.getfield 87, 3) := by decide +kernel
theorem dX13_walling_64 : decode cX13_walling 64 = .ok (.iload_n 1, 1) := by decide +kernel
theorem dX13_walling_65 : decode cX13_walling 65 = .ok (.aload_n 0, 1) := by decide +kernel
theorem dX13_walling_66 : decode cX13_walling 66 = .ok (.iconst 1, 1) := by decide +kernel
theorem dX13_walling_67 : decode cX13_walling 67 = .ok (.iconst 4, 1) := by decide +kernel
theorem dX13_walling_68 : decode cX13_walling 68 = .ok (.invokevirtual 405, 3) := by decide +kernel
theorem dX13_walling_71 : decode cX13_walling 71 = .ok (.iastore, 1) := by decide +kernel
theorem dX13_walling_72 : decode cX13_walling 72 = .ok (.aload_n 0, 1) := by decide +kernel
theorem dX13_walling_73 : decode cX13_walling 73 = .ok (.ldc2_w 297, 3) := by decide +kernel
theorem dX13_walling_76 : decode cX13_walling 76 = .ok (.invokevirtual 401, 3) := by decide +kernel
theorem dX13_walling_79 : decode cX13_walling 79 = .ok (.aload_n 0, 1) := by decide +kernel
theorem dX13_walling_80 : decode cX13_walling 80 = .ok (.getfield 90, 3) := by decide +kernel
theorem dX13_walling_83 : decode cX13_walling 83 = .ok (.iload_n 1, 1) := by decide +kernel
theorem dX13_walling_84 : decode cX13_walling 84 = .ok (.aload_n 0, 1) := by decide +kernel
theorem dX13_walling_85 : decode cX13_walling 85 = .ok (.iconst 1, 1) := by decide +kernel
theorem dX13_walling_86 : decode cX13_walling 86 = .ok (.iconst 4, 1) := by decide +kernel
theorem dX13_walling_87 : decode cX13_walling 87 = .ok (.invokevirtual 405, 3) := by decide +kernel
theorem dX13_walling_90 : decode cX13_walling 90 = .ok (.iastore, 1) := by decide +kernel
theorem dX13_walling_91 : decode cX13_walling 91 = .ok (.aload_n 0, 1) := by decide +kernel
theorem dX13_walling_92 : decode cX13_walling 92 = .ok (.getfield 36, 3) := by decide +kernel
theorem dX13_walling_95 : decode cX13_walling 95 = .ok (.ifCond .ne 16, 3) := by decide +kernel
theorem dX13_walling_98 : decode cX13_walling 98 = .ok (.aload_n 0, 1) := by decide +kernel
theorem dX13_walling_99 : decode cX13_walling 99 = .ok (.getfield 84, 3) := by decide +kernel
theorem dX13_walling_102 : decode cX13_walling 102 = .ok (.aload_n 0, 1) := by decide +kernel
theorem dX13_walling_103 : decode cX13_walling 103 = .ok (.getfield 121, 3) := by decide +kernel
theorem dX13_walling_106 : decode cX13_walling 106 = .ok (.dup2, 1) := by decide +kernel
theorem dX13_walling_107 : decode cX13_walling 107 = .ok (.iaload, 1) := by decide +kernel
theorem dX13_walling_108 : decode cX13_walling 108 = .ok (.iconst 1, 1) := by decide +kernel
theorem dX13_walling_109 : decode cX13_walling 109 = .ok (.iadd, 1) := by decide +kernel
theorem dX13_walling_110 : decode cX13_walling 110 = .ok (.iastore, 1) := by decide +kernel
theorem dX13_walling_111 : decode cX13_walling 111 = .ok (.return_, 1) := by decide +kernel
theorem dX13_reading_0 : decode cX13_reading 0 = .ok (.iconst 2, 1) := by decide +kernel
theorem dX13_reading_1 : decode cX13_reading 1 = .ok (.aload_n 0, 1) := by decide +kernel
theorem dX13_reading_2 : decode cX13_reading 2 = .ok (.getfield 121, 3) := by decide +kernel
theorem dX13_reading_5 : decode cX13_reading 5 = .ok (.imul, 1) := by decide +kernel
theorem dX13_reading_6 : decode cX13_reading 6 = .ok (.iload_n 1, 1) := by decide +kernel
theorem dX13_reading_7 : decode cX13_reading 7 = .ok (.iadd, 1) := by decide +kernel
theorem dX13_reading_8 : decode cX13_reading 8 = .ok (.istore_n 2, 1) := by decide +kernel
theorem dX13_reading_9 : decode cX13_reading 9 = .ok (.aload_n 0, 1) := by decide +kernel
theorem dX13_reading_10 : decode cX13_reading 10 = .ok (.aload_n 0, 1) := by decide +kernel
theorem dX13_reading_11 : decode cX13_reading 11 = .ok (.getfield 96, 3) := by decide +kernel
theorem dX13_reading_14 : decode cX13_reading 14 = .ok (.iload_n 2, 1) := by decide +kernel
theorem dX13_reading_15 : decode cX13_reading 15 = .ok (.iaload, 1) := by decide +kernel
theorem dX13_reading_16 : decode cX13_reading 16 = .ok (.iconst (-1), 1) := by decide +kernel
theorem dX13_reading_17 : decode cX13_reading 17 = .ok (.if_icmp .eq 7, 3) := by decide +kernel
theorem dX13_reading_20 : decode cX13_reading 20 = .ok (.iconst 1, 1) := by decide +kernel
theorem dX13_reading_21 : decode cX13_reading 21 = .ok (.goto 4, 3) := by decide +kernel
theorem dX13_reading_24 : decode cX13_reading 24 = .ok (.iconst 0, 1) := by decide +kernel
theorem dX13_reading_25 : decode cX13_reading 25 = .ok (.invokevirtual 393, 3) := by decide +kernel
theorem dX13_reading_28 : decode cX13_reading 28 = .ok (.ifCond .ne 4, 3) := by decide +kernel
theorem dX13_reading_31 : decode cX13_reading 31 = .ok (.return_, 1) := by decide +kernel
theorem dX13_reading_32 : decode cX13_reading 32 = .ok (.aload_n 0, 1) := by decide +kernel
theorem dX13_reading_33 : decode cX13_reading 33 = .ok (.iload_n 1, 1) := by decide +kernel
theorem dX13_reading_34 : decode cX13_reading 34 = .ok (.iconst 1, 1) := by decide +kernel
theorem dX13_reading_35 : decode cX13_reading 35 = .ok (.if_icmp .ne 7, 3) := by decide +kernel
theorem dX13_reading_38 : decode cX13_reading 38 = .ok (.iconst 1, 1) := by decide +kernel
theorem dX13_reading_39 : decode cX13_reading 39 = .ok (.goto 4, 3) := by decide +kernel
theorem dX13_reading_42 : decode cX13_reading 42 = .ok (.iconst 0, 1) := by decide +kernel
theorem dX13_reading_43 : decode cX13_reading 43 = .ok (.putfield 124, 3) := by decide +kernel
theorem dX13_reading_46 : decode cX13_reading 46 = .ok (.aload_n 0, 1) := by decide +kernel
theorem dX13_reading_47 : decode cX13_reading 47 = .ok (.getfield 96, 3) := by decide +kernel
theorem dX13_reading_50 : decode cX13_reading 50 = .ok (.iload_n 2, 1) := by decide +kernel
theorem dX13_reading_51 : decode cX13_reading 51 = .ok (.aload_n 0, 1) := by decide +kernel
theorem dX13_reading_52 : decode cX13_reading 52 = .ok (.getfield 118, 3) := by decide +kernel
theorem dX13_reading_55 : decode cX13_reading 55 = .ok (.iastore, 1) := by decide +kernel
theorem dX13_reading_56 : decode cX13_reading 56 = .ok (.aload_n 0, 1) := by decide +kernel
theorem dX13_reading_57 : decode cX13_reading 57 = .ok (.iload_n 1, 1) := by decide +kernel
theorem dX13_reading_58 : decode cX13_reading 58 = .ok (.iconst 1, 1) := by decide +kernel
theorem dX13_reading_59 : decode cX13_reading 59 = .ok (.if_icmp .ne 7, 3) := by decide +kernel
theorem dX13_reading_62 : decode cX13_reading 62 = .ok (.iconst 1, 1) := by decide +kernel
theorem dX13_reading_63 : decode cX13_reading 63 = .ok (.goto 4, 3) := by decide +kernel
theorem dX13_reading_66 : decode cX13_reading 66 = .ok (.iconst 0, 1) := by decide +kernel
theorem dX13_reading_67 : decode cX13_reading 67 = .ok (.invokevirtual 419, 3) := by decide +kernel
theorem dX13_reading_70 : decode cX13_reading 70 = .ok (.aload_n 0, 1) := by decide +kernel
theorem dX13_reading_71 : decode cX13_reading 71 = .ok (.getfield 99, 3) := by decide +kernel
theorem dX13_reading_74 : decode cX13_reading 74 = .ok (.iload_n 2, 1) := by decide +kernel
theorem dX13_reading_75 : decode cX13_reading 75 = .ok (.aload_n 0, 1) := by decide +kernel
theorem dX13_reading_76 : decode cX13_reading 76 = .ok (.getfield 118, 3) := by decide +kernel
theorem dX13_reading_79 : decode cX13_reading 79 = .ok (.iastore, 1) := by decide +kernel
theorem dX13_reading_80 : decode cX13_reading 80 = .ok (.return_, 1) := by decide +kernel
theorem dX13_telling_0 : decode cX13_telling 0 = .ok (.aload_n 0, 1) := by decide +kernel
theorem dX13_telling_1 : decode cX13_telling 1 = .ok (.iconst 0, 1) := by decide +kernel
theorem dX13_telling_2 : decode cX13_telling 2 = .ok (.invokevirtual 393, 3) := by decide +kernel
theorem dX13_telling_5 : decode cX13_telling 5 = .ok (.ifCond .ne 4, 3) := by decide +kernel
theorem dX13_telling_8 : decode cX13_telling 8 = .ok (.return_, 1) := by decide +kernel
theorem dX13_telling_9 : decode cX13_telling 9 = .ok (.aload_n 0, 1) := by decide +kernel
theorem dX13_telling_10 : decode cX13_telling 10 = .ok (.iload_n 2, 1) := by decide +kernel
theorem dX13_telling_11 : decode cX13_telling 11 = .ok (.iload_n 3, 1) := by decide +kernel
theorem dX13_telling_12 : decode cX13_telling 12 = .ok (.invokevirtual 405, 3) := by decide +kernel
theorem dX13_telling_15 : decode cX13_telling 15 = .ok (.istore 4, 2) := by decide +kernel
theorem dX13_telling_17 : decode cX13_telling 17 = .ok (.aload_n 0, 1) := by decide +kernel
theorem dX13_telling_18 : decode cX13_telling 18 = .ok (.getfield 36, 3) := by decide +kernel
theorem dX13_telling_21 : decode cX13_telling 21 = .ok (.ifCond .ne 18, 3) := by decide +kernel
theorem dX13_telling_24 : decode cX13_telling 24 = .ok (.aload_n 0, 1) := by decide +kernel
theorem dX13_telling_25 : decode cX13_telling 25 = .ok (.getfield 93, 3) := by decide +kernel
theorem dX13_telling_28 : decode cX13_telling 28 = .ok (.iconst 5, 1) := by decide +kernel
theorem dX13_telling_29 : decode cX13_telling 29 = .ok (.aload_n 0, 1) := by decide +kernel
theorem dX13_telling_30 : decode cX13_telling 30 = .ok (.getfield 121, 3) := by decide +kernel
theorem dX13_telling_33 : decode cX13_telling 33 = .ok (.imul, 1) := by decide +kernel
theorem dX13_telling_34 : decode cX13_telling 34 = .ok (.iload_n 1, 1) := by decide +kernel
theorem dX13_telling_35 : decode cX13_telling 35 = .ok (.iadd, 1) := by decide +kernel
theorem dX13_telling_36 : decode cX13_telling 36 = .ok (.iload 4, 2) := by decide +kernel
theorem dX13_telling_38 : decode cX13_telling 38 = .ok (.iastore, 1) := by decide +kernel
theorem dX13_telling_39 : decode cX13_telling 39 = .ok (.return_, 1) := by decide +kernel
theorem dX13_raising_0 : decode cX13_raising 0 = .ok (.aload_n 0, 1) := by decide +kernel
theorem dX13_raising_1 : decode cX13_raising 1 = .ok (.iconst 0, 1) := by decide +kernel
theorem dX13_raising_2 : decode cX13_raising 2 = .ok (.invokevirtual 393, 3) := by decide +kernel
theorem dX13_raising_5 : decode cX13_raising 5 = .ok (.ifCond .ne 4, 3) := by decide +kernel
theorem dX13_raising_8 : decode cX13_raising 8 = .ok (.return_, 1) := by decide +kernel
theorem dX13_raising_9 : decode cX13_raising 9 = .ok (.aload_n 0, 1) := by decide +kernel
theorem dX13_raising_10 : decode cX13_raising 10 = .ok (.iconst 1, 1) := by decide +kernel
theorem dX13_raising_11 : decode cX13_raising 11 = .ok (.bipush 30, 2) := by decide +kernel
theorem dX13_raising_13 : decode cX13_raising 13 = .ok (.invokevirtual 405, 3) := by decide +kernel
theorem dX13_raising_16 : decode cX13_raising 16 = .ok (.istore_n 1, 1) := by decide +kernel
theorem dX13_raising_17 : decode cX13_raising 17 = .ok (.aload_n 0, 1) := by decide +kernel
theorem dX13_raising_18 : decode cX13_raising 18 = .ok (.ldc2_w 305, 3) := by decide +kernel
theorem dX13_raising_21 : decode cX13_raising 21 = .ok (.invokevirtual 401, 3) := by decide +kernel
theorem dX13_raising_24 : decode cX13_raising 24 = .ok (.aload_n 0, 1) := by decide +kernel
theorem dX13_raising_25 : decode cX13_raising 25 = .ok (.aload_n 0, 1) := by decide +kernel
theorem dX13_raising_26 : decode cX13_raising 26 = .ok (.getfield 36, 3) := by decide +kernel
theorem dX13_raising_29 : decode cX13_raising 29 = .ok (.ifCond .le 7, 3) := by decide +kernel
theorem dX13_raising_32 : decode cX13_raising 32 = .ok (.iconst 0, 1) := by decide +kernel
theorem dX13_raising_33 : decode cX13_raising 33 = .ok (.goto 6, 3) := by decide +kernel
theorem dX13_raising_36 : decode cX13_raising 36 = .ok (.iload_n 1, 1) := by decide +kernel
theorem dX13_raising_37 : decode cX13_raising 37 = .ok (.iconst 1, 1) := by decide +kernel
theorem dX13_raising_38 : decode cX13_raising 38 = .ok (.iadd, 1) := by decide +kernel
theorem dX13_raising_39 : decode cX13_raising 39 = .ok (.bipush 30, 2) := by decide +kernel
theorem dX13_raising_41 : decode cX13_raising 41 = .ok (.invokevirtual 405, 3) := by decide +kernel
theorem dX13_raising_44 : decode cX13_raising 44 = .ok (.istore_n 2, 1) := by decide +kernel
theorem dX13_raising_45 : decode cX13_raising 45 = .ok (.aload_n 0, 1) := by decide +kernel
theorem dX13_raising_46 : decode cX13_raising 46 = .ok (.getfield 36, 3) := by decide +kernel
theorem dX13_raising_49 : decode cX13_raising 49 = .ok (.ifCond .le 4, 3) := by decide +kernel
theorem dX13_raising_52 : decode cX13_raising 52 = .ok (.return_, 1) := by decide +kernel
theorem dX13_raising_53 : decode cX13_raising 53 = .ok (.aload_n 0, 1) := by decide +kernel
theorem dX13_raising_54 : decode cX13_raising 54 = .ok (.getfield 93, 3) := by decide +kernel
theorem dX13_raising_57 : decode cX13_raising 57 = .ok (.iconst 5, 1) := by decide +kernel
theorem dX13_raising_58 : decode cX13_raising 58 = .ok (.aload_n 0, 1) := by decide +kernel
theorem dX13_raising_59 : decode cX13_raising 59 = .ok (.getfield 121, 3) := by decide +kernel
theorem dX13_raising_62 : decode cX13_raising 62 = .ok (.imul, 1) := by decide +kernel
theorem dX13_raising_63 : decode cX13_raising 63 = .ok (.iconst 0, 1) := by decide +kernel
theorem dX13_raising_64 : decode cX13_raising 64 = .ok (.iadd, 1) := by decide +kernel
theorem dX13_raising_65 : decode cX13_raising 65 = .ok (.iload_n 1, 1) := by decide +kernel
theorem dX13_raising_66 : decode cX13_raising 66 = .ok (.iastore, 1) := by decide +kernel
theorem dX13_raising_67 : decode cX13_raising 67 = .ok (.aload_n 0, 1) := by decide +kernel
theorem dX13_raising_68 : decode cX13_raising 68 = .ok (.getfield 93, 3) := by decide +kernel
theorem dX13_raising_71 : decode cX13_raising 71 = .ok (.iconst 5, 1) := by decide +kernel
theorem dX13_raising_72 : decode cX13_raising 72 = .ok (.aload_n 0, 1) := by decide +kernel
theorem dX13_raising_73 : decode cX13_raising 73 = .ok (.getfield 121, 3) := by decide +kernel
theorem dX13_raising_76 : decode cX13_raising 76 = .ok (.imul, 1) := by decide +kernel
theorem dX13_raising_77 : decode cX13_raising 77 = .ok (.iconst 1, 1) := by decide +kernel
theorem dX13_raising_78 : decode cX13_raising 78 = .ok (.iadd, 1) := by decide +kernel
theorem dX13_raising_79 : decode cX13_raising 79 = .ok (.iload_n 2, 1) := by decide +kernel
theorem dX13_raising_80 : decode cX13_raising 80 = .ok (.iastore, 1) := by decide +kernel
theorem dX13_raising_81 : decode cX13_raising 81 = .ok (.return_, 1) := by decide +kernel
theorem dX13_statement_0 : decode cX13_statement 0 = .ok (.aload_n 0, 1) := by decide +kernel
theorem dX13_statement_1 : decode cX13_statement 1 = .ok (.invokevirtual 268, 3) := by decide +kernel
theorem dX13_statement_4 : decode cX13_statement 4 = .ok (.aload_n 0, 1) := by decide +kernel
theorem dX13_statement_5 : decode cX13_statement 5 = .ok (.getfield 36, 3) := by decide +kernel
theorem dX13_statement_8 : decode cX13_statement 8 = .ok (.ifCond .le 4, 3) := by decide +kernel
theorem dX13_statement_11 : decode cX13_statement 11 = .ok (.return_, 1) := by decide +kernel
theorem dX13_statement_12 : decode cX13_statement 12 = .ok (.aload_n 0, 1) := by decide +kernel
theorem dX13_statement_13 : decode cX13_statement 13 = .ok (.ldc2_w 277, 3) := by decide +kernel
theorem dX13_statement_16 : decode cX13_statement 16 = .ok (.invokevirtual 363, 3) := by decide +kernel
theorem dX13_statement_19 : decode cX13_statement 19 = .ok (.ifCond .eq 10, 3) := by decide +kernel
theorem dX13_statement_22 : decode cX13_statement 22 = .ok (.aload_n 0, 1) := by decide +kernel
theorem dX13_statement_23 : decode cX13_statement 23 = .ok (.invokevirtual 423, 3) := by decide +kernel
theorem dX13_statement_26 : decode cX13_statement 26 = .ok (.goto 196, 3) := by decide +kernel
theorem dX13_statement_29 : decode cX13_statement 29 = .ok (.aload_n 0, 1) := by decide +kernel
theorem dX13_statement_30 : decode cX13_statement 30 = .ok (.ldc2_w 283, 3) := by decide +kernel
theorem dX13_statement_33 : decode cX13_statement 33 = .ok (.invokevirtual 363, 3) := by decide +kernel
theorem dX13_statement_36 : decode cX13_statement 36 = .ok (.ifCond .eq 10, 3) := by decide +kernel
theorem dX13_statement_39 : decode cX13_statement 39 = .ok (.aload_n 0, 1) := by decide +kernel
theorem dX13_statement_40 : decode cX13_statement 40 = .ok (.invokevirtual 426, 3) := by decide +kernel
theorem dX13_statement_43 : decode cX13_statement 43 = .ok (.goto 179, 3) := by decide +kernel
theorem dX13_statement_46 : decode cX13_statement 46 = .ok (.aload_n 0, 1) := by decide +kernel
theorem dX13_statement_47 : decode cX13_statement 47 = .ok (.ldc2_w 289, 3) := by decide +kernel
theorem dX13_statement_50 : decode cX13_statement 50 = .ok (.invokevirtual 363, 3) := by decide +kernel
theorem dX13_statement_53 : decode cX13_statement 53 = .ok (.ifCond .eq 10, 3) := by decide +kernel
theorem dX13_statement_56 : decode cX13_statement 56 = .ok (.aload_n 0, 1) := by decide +kernel
theorem dX13_statement_57 : decode cX13_statement 57 = .ok (.invokevirtual 429, 3) := by decide +kernel
theorem dX13_statement_60 : decode cX13_statement 60 = .ok (.goto 162, 3) := by decide +kernel
theorem dX13_statement_63 : decode cX13_statement 63 = .ok (.aload_n 0, 1) := by decide +kernel
theorem dX13_statement_64 : decode cX13_statement 64 = .ok (.ldc2_w 291, 3) := by decide +kernel
theorem dX13_statement_67 : decode cX13_statement 67 = .ok (.invokevirtual 363, 3) := by decide +kernel
theorem dX13_statement_70 : decode cX13_statement 70 = .ok (.ifCond .eq 10, 3) := by decide +kernel
theorem dX13_statement_73 : decode cX13_statement 73 = .ok (.aload_n 0, 1) := by decide +kernel
theorem dX13_statement_74 : decode cX13_statement 74 = .ok (.invokevirtual 432, 3) := by decide +kernel
theorem dX13_statement_77 : decode cX13_statement 77 = .ok (.goto 145, 3) := by decide +kernel
theorem dX13_statement_80 : decode cX13_statement 80 = .ok (.aload_n 0, 1) := by decide +kernel
theorem dX13_statement_81 : decode cX13_statement 81 = .ok (.ldc2_w 293, 3) := by decide +kernel
theorem dX13_statement_84 : decode cX13_statement 84 = .ok (.invokevirtual 363, 3) := by decide +kernel
theorem dX13_statement_87 : decode cX13_statement 87 = .ok (.ifCond .eq 10, 3) := by decide +kernel
theorem dX13_statement_90 : decode cX13_statement 90 = .ok (.aload_n 0, 1) := by decide +kernel
theorem dX13_statement_91 : decode cX13_statement 91 = .ok (.invokevirtual 434, 3) := by decide +kernel
theorem dX13_statement_94 : decode cX13_statement 94 = .ok (.goto 128, 3) := by decide +kernel
theorem dX13_statement_97 : decode cX13_statement 97 = .ok (.aload_n 0, 1) := by decide +kernel
theorem dX13_statement_98 : decode cX13_statement 98 = .ok (.ldc2_w 299, 3) := by decide +kernel
theorem dX13_statement_101 : decode cX13_statement 101 = .ok (.invokevirtual 363, 3) := by decide +kernel
theorem dX13_statement_104 : decode cX13_statement 104 = .ok (.ifCond .eq 11, 3) := by decide +kernel
theorem dX13_statement_107 : decode cX13_statement 107 = .ok (.aload_n 0, 1) := by decide +kernel
theorem dX13_statement_108 : decode cX13_statement 108 = .ok (.iconst 0, 1) := by decide +kernel
theorem dX13_statement_109 : decode cX13_statement 109 = .ok (.invokevirtual 437, 3) := by decide +kernel
theorem dX13_statement_112 : decode cX13_statement 112 = .ok (.goto 110, 3) := by decide +kernel
theorem dX13_statement_115 : decode cX13_statement 115 = .ok (.aload_n 0, 1) := by decide +kernel
theorem dX13_statement_116 : decode cX13_statement 116 = .ok (.ldc2_w 301, 3) := by decide +kernel
theorem dX13_statement_119 : decode cX13_statement 119 = .ok (.invokevirtual 363, 3) := by decide +kernel
theorem dX13_statement_122 : decode cX13_statement 122 = .ok (.ifCond .eq 11, 3) := by decide +kernel
theorem dX13_statement_125 : decode cX13_statement 125 = .ok (.aload_n 0, 1) := by decide +kernel
theorem dX13_statement_126 : decode cX13_statement 126 = .ok (.iconst 1, 1) := by decide +kernel
theorem dX13_statement_127 : decode cX13_statement 127 = .ok (.invokevirtual 437, 3) := by decide +kernel
theorem dX13_statement_130 : decode cX13_statement 130 = .ok (.goto 92, 3) := by decide +kernel
theorem dX13_statement_133 : decode cX13_statement 133 = .ok (.aload_n 0, 1) := by decide +kernel
theorem dX13_statement_134 : decode cX13_statement 134 = .ok (.ldc2_w 303, 3) := by decide +kernel
theorem dX13_statement_137 : decode cX13_statement 137 = .ok (.invokevirtual 363, 3) := by decide +kernel
theorem dX13_statement_140 : decode cX13_statement 140 = .ok (.ifCond .eq 10, 3) := by decide +kernel
theorem dX13_statement_143 : decode cX13_statement 143 = .ok (.aload_n 0, 1) := by decide +kernel
theorem dX13_statement_144 : decode cX13_statement 144 = .ok (.invokevirtual 440, 3) := by decide +kernel
theorem dX13_statement_147 : decode cX13_statement 147 = .ok (.goto 75, 3) := by decide +kernel
theorem dX13_statement_150 : decode cX13_statement 150 = .ok (.aload_n 0, 1) := by decide +kernel
theorem dX13_statement_151 : decode cX13_statement 151 = .ok (.ldc2_w 307, 3) := by decide +kernel
theorem dX13_statement_154 : decode cX13_statement 154 = .ok (.invokevirtual 363, 3) := by decide +kernel
theorem dX13_statement_157 : decode cX13_statement 157 = .ok (.ifCond .eq 14, 3) := by decide +kernel
theorem dX13_statement_160 : decode cX13_statement 160 = .ok (.aload_n 0, 1) := by decide +kernel
theorem dX13_statement_161 : decode cX13_statement 161 = .ok (.iconst 2, 1) := by decide +kernel
theorem dX13_statement_162 : decode cX13_statement 162 = .ok (.iconst 0, 1) := by decide +kernel
theorem dX13_statement_163 : decode cX13_statement 163 = .ok (.bipush 99, 2) := by decide +kernel
theorem dX13_statement_165 : decode cX13_statement 165 = .ok (.invokevirtual 443, 3) := by decide +kernel
theorem dX13_statement_168 : decode cX13_statement 168 = .ok (.goto 54, 3) := by decide +kernel
theorem dX13_statement_171 : decode cX13_statement 171 = .ok (.aload_n 0, 1) := by decide +kernel
theorem dX13_statement_172 : decode cX13_statement 172 = .ok (.ldc2_w 309, 3) := by decide +kernel
theorem dX13_statement_175 : decode cX13_statement 175 = .ok (.invokevirtual 363, 3) := by decide +kernel
theorem dX13_statement_178 : decode cX13_statement 178 = .ok (.ifCond .eq 14, 3) := by decide +kernel
theorem dX13_statement_181 : decode cX13_statement 181 = .ok (.aload_n 0, 1) := by decide +kernel
theorem dX13_statement_182 : decode cX13_statement 182 = .ok (.iconst 3, 1) := by decide +kernel
theorem dX13_statement_183 : decode cX13_statement 183 = .ok (.iconst 0, 1) := by decide +kernel
theorem dX13_statement_184 : decode cX13_statement 184 = .ok (.bipush 100, 2) := by decide +kernel
theorem dX13_statement_186 : decode cX13_statement 186 = .ok (.invokevirtual 443, 3) := by decide +kernel
theorem dX13_statement_189 : decode cX13_statement 189 = .ok (.goto 33, 3) := by decide +kernel
theorem dX13_statement_192 : decode cX13_statement 192 = .ok (.aload_n 0, 1) := by decide +kernel
theorem dX13_statement_193 : decode cX13_statement 193 = .ok (.ldc2_w 311, 3) := by decide +kernel
theorem dX13_statement_196 : decode cX13_statement 196 = .ok (.invokevirtual 363, 3) := by decide +kernel
theorem dX13_statement_199 : decode cX13_statement 199 = .ok (.ifCond .eq 14, 3) := by decide +kernel
theorem dX13_statement_202 : decode cX13_statement 202 = .ok (.aload_n 0, 1) := by decide +kernel
theorem dX13_statement_203 : decode cX13_statement 203 = .ok (.iconst 4, 1) := by decide +kernel
theorem dX13_statement_204 : decode cX13_statement 204 = .ok (.iconst 0, 1) := by decide +kernel
theorem dX13_statement_205 : decode cX13_statement 205 = .ok (.bipush 99, 2) := by decide +kernel
theorem dX13_statement_207 : decode cX13_statement 207 = .ok (.invokevirtual 443, 3) := by decide +kernel
theorem dX13_statement_210 : decode cX13_statement 210 = .ok (.goto 12, 3) := by decide +kernel
theorem dX13_statement_213 : decode cX13_statement 213 = .ok (.aload_n 0, 1) := by decide +kernel
theorem dX13_statement_214 : decode cX13_statement 214 = .ok (.iconst 1, 1) := by decide +kernel
theorem dX13_statement_215 : decode cX13_statement 215 = .ok (.aload_n 0, 1) := by decide +kernel
theorem dX13_statement_216 : decode cX13_statement 216 = .ok (.getfield 23, 3) := by decide +kernel
theorem dX13_statement_219 : decode cX13_statement 219 = .ok (.invokevirtual 257, 3) := by decide +kernel
theorem dX13_statement_222 : decode cX13_statement 222 = .ok (.return_, 1) := by decide +kernel
theorem dX13_finishes_0 : decode cX13_finishes 0 = .ok (.aload_n 0, 1) := by decide +kernel
theorem dX13_finishes_1 : decode cX13_finishes 1 = .ok (.invokevirtual 268, 3) := by decide +kernel
theorem dX13_finishes_4 : decode cX13_finishes 4 = .ok (.aload_n 0, 1) := by decide +kernel
theorem dX13_finishes_5 : decode cX13_finishes 5 = .ok (.getfield 36, 3) := by decide +kernel
theorem dX13_finishes_8 : decode cX13_finishes 8 = .ok (.ifCond .le 4, 3) := by decide +kernel
theorem dX13_finishes_11 : decode cX13_finishes 11 = .ok (.return_, 1) := by decide +kernel
theorem dX13_finishes_12 : decode cX13_finishes 12 = .ok (.aload_n 0, 1) := by decide +kernel
theorem dX13_finishes_13 : decode cX13_finishes 13 = .ok (.getfield 26, 3) := by decide +kernel
theorem dX13_finishes_16 : decode cX13_finishes 16 = .ok (.istore_n 2, 1) := by decide +kernel
theorem dX13_finishes_17 : decode cX13_finishes 17 = .ok (.iload_n 2, 1) := by decide +kernel
theorem dX13_finishes_18 : decode cX13_finishes 18 = .ok (.aload_n 0, 1) := by decide +kernel
theorem dX13_finishes_19 : decode cX13_finishes 19 = .ok (.getfield 17, 3) := by decide +kernel
theorem dX13_finishes_22 : decode cX13_finishes 22 = .ok (.if_icmp .ge 31, 3) := by decide +kernel
theorem dX13_finishes_25 : decode cX13_finishes 25 = .ok (.aload_n 0, 1) := by decide +kernel
theorem dX13_finishes_26 : decode cX13_finishes 26 = .ok (.getfield 7, 3) := by decide +kernel
theorem dX13_finishes_29 : decode cX13_finishes 29 = .ok (.iload_n 2, 1) := by decide +kernel
theorem dX13_finishes_30 : decode cX13_finishes 30 = .ok (.iaload, 1) := by decide +kernel
theorem dX13_finishes_31 : decode cX13_finishes 31 = .ok (.bipush 32, 2) := by decide +kernel
theorem dX13_finishes_33 : decode cX13_finishes 33 = .ok (.if_icmp .eq 14, 3) := by decide +kernel
theorem dX13_finishes_36 : decode cX13_finishes 36 = .ok (.aload_n 0, 1) := by decide +kernel
theorem dX13_finishes_37 : decode cX13_finishes 37 = .ok (.getfield 7, 3) := by decide +kernel
theorem dX13_finishes_40 : decode cX13_finishes 40 = .ok (.iload_n 2, 1) := by decide +kernel
theorem dX13_finishes_41 : decode cX13_finishes 41 = .ok (.iaload, 1) := by decide +kernel
theorem dX13_finishes_42 : decode cX13_finishes 42 = .ok (.bipush 10, 2) := by decide +kernel
theorem dX13_finishes_44 : decode cX13_finishes 44 = .ok (.if_icmp .ne 9, 3) := by decide +kernel
theorem dX13_finishes_47 : decode cX13_finishes 47 = .ok (.iinc 2 1, 3) := by decide +kernel
theorem dX13_finishes_50 : decode cX13_finishes 50 = .ok (.goto (-33), 3) := by decide +kernel
theorem dX13_finishes_53 : decode cX13_finishes 53 = .ok (.aload_n 0, 1) := by decide +kernel
theorem dX13_finishes_54 : decode cX13_finishes 54 = .ok (.bipush 59, 2) := by decide +kernel
theorem dX13_finishes_56 : decode cX13_finishes 56 = .ok (.invokevirtual 271, 3) := by decide +kernel
theorem dX13_finishes_59 : decode cX13_finishes 59 = .ok (.ifCond .eq 24, 3) := by decide +kernel
theorem dX13_finishes_62 : decode cX13_finishes 62 = .ok (.iload_n 1, 1) := by decide +kernel
theorem dX13_finishes_63 : decode cX13_finishes 63 = .ok (.bipush 80, 2) := by decide +kernel
theorem dX13_finishes_65 : decode cX13_finishes 65 = .ok (.if_icmp .ne 18, 3) := by decide +kernel
theorem dX13_finishes_68 : decode cX13_finishes 68 = .ok (.iload_n 2, 1) := by decide +kernel
theorem dX13_finishes_69 : decode cX13_finishes 69 = .ok (.aload_n 0, 1) := by decide +kernel
theorem dX13_finishes_70 : decode cX13_finishes 70 = .ok (.getfield 17, 3) := by decide +kernel
theorem dX13_finishes_73 : decode cX13_finishes 73 = .ok (.if_icmp .ge 10, 3) := by decide +kernel
theorem dX13_finishes_76 : decode cX13_finishes 76 = .ok (.aload_n 0, 1) := by decide +kernel
theorem dX13_finishes_77 : decode cX13_finishes 77 = .ok (.bipush 6, 2) := by decide +kernel
theorem dX13_finishes_79 : decode cX13_finishes 79 = .ok (.iload_n 2, 1) := by decide +kernel
theorem dX13_finishes_80 : decode cX13_finishes 80 = .ok (.invokevirtual 257, 3) := by decide +kernel
theorem dX13_finishes_83 : decode cX13_finishes 83 = .ok (.aload_n 0, 1) := by decide +kernel
theorem dX13_finishes_84 : decode cX13_finishes 84 = .ok (.bipush 59, 2) := by decide +kernel
theorem dX13_finishes_86 : decode cX13_finishes 86 = .ok (.invokevirtual 447, 3) := by decide +kernel
theorem dX13_finishes_89 : decode cX13_finishes 89 = .ok (.return_, 1) := by decide +kernel
theorem dX13_town_0 : decode cX13_town 0 = .ok (.aload_n 0, 1) := by decide +kernel
theorem dX13_town_1 : decode cX13_town 1 = .ok (.aload_n 0, 1) := by decide +kernel
theorem dX13_town_2 : decode cX13_town 2 = .ok (.getfield 13, 3) := by decide +kernel
theorem dX13_town_5 : decode cX13_town 5 = .ok (.putfield 17, 3) := by decide +kernel
theorem dX13_town_8 : decode cX13_town 8 = .ok (.aload_n 0, 1) := by decide +kernel
theorem dX13_town_9 : decode cX13_town 9 = .ok (.iconst 0, 1) := by decide +kernel
theorem dX13_town_10 : decode cX13_town 10 = .ok (.putfield 13, 3) := by decide +kernel
theorem dX13_town_13 : decode cX13_town 13 = .ok (.aload_n 0, 1) := by decide +kernel
theorem dX13_town_14 : decode cX13_town 14 = .ok (.iconst 0, 1) := by decide +kernel
theorem dX13_town_15 : decode cX13_town 15 = .ok (.putfield 26, 3) := by decide +kernel
theorem dX13_town_18 : decode cX13_town 18 = .ok (.aload_n 0, 1) := by decide +kernel
theorem dX13_town_19 : decode cX13_town 19 = .ok (.iconst 0, 1) := by decide +kernel
theorem dX13_town_20 : decode cX13_town 20 = .ok (.putfield 36, 3) := by decide +kernel
theorem dX13_town_23 : decode cX13_town 23 = .ok (.aload_n 0, 1) := by decide +kernel
theorem dX13_town_24 : decode cX13_town 24 = .ok (.iconst (-1), 1) := by decide +kernel
theorem dX13_town_25 : decode cX13_town 25 = .ok (.putfield 39, 3) := by decide +kernel
theorem dX13_town_28 : decode cX13_town 28 = .ok (.aload_n 0, 1) := by decide +kernel
theorem dX13_town_29 : decode cX13_town 29 = .ok (.iconst 1, 1) := by decide +kernel
theorem dX13_town_30 : decode cX13_town 30 = .ok (.aload_n 0, 1) := by decide +kernel
theorem dX13_town_31 : decode cX13_town 31 = .ok (.getfield 51, 3) := by decide +kernel
theorem dX13_town_34 : decode cX13_town 34 = .ok (.isub, 1) := by decide +kernel
theorem dX13_town_35 : decode cX13_town 35 = .ok (.putfield 121, 3) := by decide +kernel
theorem dX13_town_38 : decode cX13_town 38 = .ok (.aload_n 0, 1) := by decide +kernel
theorem dX13_town_39 : decode cX13_town 39 = .ok (.getfield 54, 3) := by decide +kernel
theorem dX13_town_42 : decode cX13_town 42 = .ok (.aload_n 0, 1) := by decide +kernel
theorem dX13_town_43 : decode cX13_town 43 = .ok (.getfield 121, 3) := by decide +kernel
theorem dX13_town_46 : decode cX13_town 46 = .ok (.iconst 0, 1) := by decide +kernel
theorem dX13_town_47 : decode cX13_town 47 = .ok (.iastore, 1) := by decide +kernel
theorem dX13_town_48 : decode cX13_town 48 = .ok (.aload_n 0, 1) := by decide +kernel
theorem dX13_town_49 : decode cX13_town 49 = .ok (.getfield 63, 3) := by decide +kernel
theorem dX13_town_52 : decode cX13_town 52 = .ok (.aload_n 0, 1) := by decide +kernel
theorem dX13_town_53 : decode cX13_town 53 = .ok (.getfield 121, 3) := by decide +kernel
theorem dX13_town_56 : decode cX13_town 56 = .ok (.iconst 0, 1) := by decide +kernel
theorem dX13_town_57 : decode cX13_town 57 = .ok (.iastore, 1) := by decide +kernel
theorem dX13_town_58 : decode cX13_town 58 = .ok (.aload_n 0, 1) := by decide +kernel
theorem dX13_town_59 : decode cX13_town 59 = .ok (.getfield 75, 3) := by decide +kernel
theorem dX13_town_62 : decode cX13_town 62 = .ok (.aload_n 0, 1) := by decide +kernel
theorem dX13_town_63 : decode cX13_town 63 = .ok (.getfield 121, 3) := by decide +kernel
theorem dX13_town_66 : decode cX13_town 66 = .ok (.iconst 0, 1) := by decide +kernel
theorem dX13_town_67 : decode cX13_town 67 = .ok (.iastore, 1) := by decide +kernel
theorem dX13_town_68 : decode cX13_town 68 = .ok (.aload_n 0, 1) := by decide +kernel
theorem dX13_town_69 : decode cX13_town 69 = .ok (.getfield 84, 3) := by decide +kernel
theorem dX13_town_72 : decode cX13_town 72 = .ok (.aload_n 0, 1) := by decide +kernel
theorem dX13_town_73 : decode cX13_town 73 = .ok (.getfield 121, 3) := by decide +kernel
theorem dX13_town_76 : decode cX13_town 76 = .ok (.iconst 0, 1) := by decide +kernel
theorem dX13_town_77 : decode cX13_town 77 = .ok (.iastore, 1) := by decide +kernel
theorem dX13_town_78 : decode cX13_town 78 = .ok (.aload_n 0, 1) := by decide +kernel
theorem dX13_town_79 : decode cX13_town 79 = .ok (.aload_n 0, 1) := by decide +kernel
theorem dX13_town_80 : decode cX13_town 80 = .ok (.getfield 121, 3) := by decide +kernel
theorem dX13_town_83 : decode cX13_town 83 = .ok (.invokevirtual 246, 3) := by decide +kernel
theorem dX13_town_86 : decode cX13_town 86 = .ok (.aload_n 0, 1) := by decide +kernel
theorem dX13_town_87 : decode cX13_town 87 = .ok (.getfield 96, 3) := by decide +kernel
theorem dX13_town_90 : decode cX13_town 90 = .ok (.iconst 2, 1) := by decide +kernel
theorem dX13_town_91 : decode cX13_town 91 = .ok (.aload_n 0, 1) := by decide +kernel
theorem dX13_town_92 : decode cX13_town 92 = .ok (.getfield 121, 3) := by decide +kernel
theorem dX13_town_95 : decode cX13_town 95 = .ok (.imul, 1) := by decide +kernel
theorem dX13_town_96 : decode cX13_town 96 = .ok (.iconst (-1), 1) := by decide +kernel
theorem dX13_town_97 : decode cX13_town 97 = .ok (.iastore, 1) := by decide +kernel
theorem dX13_town_98 : decode cX13_town 98 = .ok (.aload_n 0, 1) := by decide +kernel
theorem dX13_town_99 : decode cX13_town 99 = .ok (.getfield 96, 3) := by decide +kernel
theorem dX13_town_102 : decode cX13_town 102 = .ok (.iconst 2, 1) := by decide +kernel
theorem dX13_town_103 : decode cX13_town 103 = .ok (.aload_n 0, 1) := by decide +kernel
theorem dX13_town_104 : decode cX13_town 104 = .ok (.getfield 121, 3) := by decide +kernel
theorem dX13_town_107 : decode cX13_town 107 = .ok (.imul, 1) := by decide +kernel
theorem dX13_town_108 : decode cX13_town 108 = .ok (.iconst 1, 1) := by decide +kernel
theorem dX13_town_109 : decode cX13_town 109 = .ok (.iadd, 1) := by decide +kernel
theorem dX13_town_110 : decode cX13_town 110 = .ok (.iconst (-1), 1) := by decide +kernel
theorem dX13_town_111 : decode cX13_town 111 = .ok (.iastore, 1) := by decide +kernel
theorem dX13_town_112 : decode cX13_town 112 = .ok (.aload_n 0, 1) := by decide +kernel
theorem dX13_town_113 : decode cX13_town 113 = .ok (.iconst 0, 1) := by decide +kernel
theorem dX13_town_114 : decode cX13_town 114 = .ok (.putfield 118, 3) := by decide +kernel
theorem dX13_town_117 : decode cX13_town 117 = .ok (.iconst 0, 1) := by decide +kernel
theorem dX13_town_118 : decode cX13_town 118 = .ok (.istore_n 1, 1) := by decide +kernel
theorem dX13_town_119 : decode cX13_town 119 = .ok (.aload_n 0, 1) := by decide +kernel
theorem dX13_town_120 : decode cX13_town 120 = .ok (.invokevirtual 274, 3) := by decide +kernel
theorem dX13_town_123 : decode cX13_town 123 = .ok (.aload_n 0, 1) := by decide +kernel
theorem dX13_town_124 : decode cX13_town 124 = .ok (.getfield 36, 3) := by decide +kernel
theorem dX13_town_127 : decode cX13_town 127 = .ok (.ifCond .ne 25, 3) := by decide +kernel
theorem dX13_town_130 : decode cX13_town 130 = .ok (.aload_n 0, 1) := by decide +kernel
theorem dX13_town_131 : decode cX13_town 131 = .ok (.getfield 20, 3) := by decide +kernel
theorem dX13_town_134 : decode cX13_town 134 = .ok (.ifCond .eq 18, 3) := by decide +kernel
theorem dX13_town_137 : decode cX13_town 137 = .ok (.aload_n 0, 1) := by decide +kernel
theorem dX13_town_138 : decode cX13_town 138 = .ok (.invokevirtual 449, 3) := by decide +kernel
theorem dX13_town_141 : decode cX13_town 141 = .ok (.iinc 1 1, 3) := by decide +kernel
theorem dX13_town_144 : decode cX13_town 144 = .ok (.aload_n 0, 1) := by decide +kernel
theorem dX13_town_145 : decode cX13_town 145 = .ok (.iload_n 1, 1) := by decide +kernel
theorem dX13_town_146 : decode cX13_town 146 = .ok (.invokevirtual 452, 3) := by decide +kernel
theorem dX13_town_149 : decode cX13_town 149 = .ok (.goto (-26), 3) := by decide +kernel
theorem dX13_town_152 : decode cX13_town 152 = .ok (.aload_n 0, 1) := by decide +kernel
theorem dX13_town_153 : decode cX13_town 153 = .ok (.aload_n 0, 1) := by decide +kernel
theorem dX13_town_154 : decode cX13_town 154 = .ok (.getfield 36, 3) := by decide +kernel
theorem dX13_town_157 : decode cX13_town 157 = .ok (.putfield 42, 3) := by decide +kernel
theorem dX13_town_160 : decode cX13_town 160 = .ok (.aload_n 0, 1) := by decide +kernel
theorem dX13_town_161 : decode cX13_town 161 = .ok (.aload_n 0, 1) := by decide +kernel
theorem dX13_town_162 : decode cX13_town 162 = .ok (.getfield 39, 3) := by decide +kernel
theorem dX13_town_165 : decode cX13_town 165 = .ok (.putfield 45, 3) := by decide +kernel
theorem dX13_town_168 : decode cX13_town 168 = .ok (.aload_n 0, 1) := by decide +kernel
theorem dX13_town_169 : decode cX13_town 169 = .ok (.getfield 36, 3) := by decide +kernel
theorem dX13_town_172 : decode cX13_town 172 = .ok (.ifCond .le 9, 3) := by decide +kernel
theorem dX13_town_175 : decode cX13_town 175 = .ok (.aload_n 0, 1) := by decide +kernel
theorem dX13_town_176 : decode cX13_town 176 = .ok (.iconst 1, 1) := by decide +kernel
theorem dX13_town_177 : decode cX13_town 177 = .ok (.invokevirtual 250, 3) := by decide +kernel
theorem dX13_town_180 : decode cX13_town 180 = .ok (.ireturn, 1) := by decide +kernel
theorem dX13_town_181 : decode cX13_town 181 = .ok (.aload_n 0, 1) := by decide +kernel
theorem dX13_town_182 : decode cX13_town 182 = .ok (.aload_n 0, 1) := by decide +kernel
theorem dX13_town_183 : decode cX13_town 183 = .ok (.getfield 121, 3) := by decide +kernel
theorem dX13_town_186 : decode cX13_town 186 = .ok (.putfield 51, 3) := by decide +kernel
theorem dX13_town_189 : decode cX13_town 189 = .ok (.aload_n 0, 1) := by decide +kernel
theorem dX13_town_190 : decode cX13_town 190 = .ok (.invokevirtual 455, 3) := by decide +kernel
theorem dX13_town_193 : decode cX13_town 193 = .ok (.iload_n 1, 1) := by decide +kernel
theorem dX13_town_194 : decode cX13_town 194 = .ok (.ireturn, 1) := by decide +kernel
theorem dX13_fault_0 : decode cX13_fault 0 = .ok (.iload_n 1, 1) := by decide +kernel
theorem dX13_fault_1 : decode cX13_fault 1 = .ok (.ifCond .ne 10, 3) := by decide +kernel
theorem dX13_fault_4 : decode cX13_fault 4 = .ok (.aload_n 0, 1) := by decide +kernel
theorem dX13_fault_5 : decode cX13_fault 5 = .ok (.getfield 42, 3) := by decide +kernel
theorem dX13_fault_8 : decode cX13_fault 8 = .ok (.goto 16, 3) := by decide +kernel
theorem dX13_fault_11 : decode cX13_fault 11 = .ok (.iload_n 1, 1) := by decide +kernel
theorem dX13_fault_12 : decode cX13_fault 12 = .ok (.iconst 1, 1) := by decide +kernel
theorem dX13_fault_13 : decode cX13_fault 13 = .ok (.if_icmp .ne 10, 3) := by decide +kernel
theorem dX13_fault_16 : decode cX13_fault 16 = .ok (.aload_n 0, 1) := by decide +kernel
theorem dX13_fault_17 : decode cX13_fault 17 = .ok (.getfield 45, 3) := by decide +kernel
theorem dX13_fault_20 : decode cX13_fault 20 = .ok (.goto 4, 3) := by decide +kernel
theorem dX13_fault_23 : decode cX13_fault 23 = .ok (.iconst (-1), 1) := by decide +kernel
theorem dX13_fault_24 : decode cX13_fault 24 = .ok (.ireturn, 1) := by decide +kernel
theorem dX13_refuses_0 : decode cX13_refuses 0 = .ok (.aload_n 0, 1) := by decide +kernel
theorem dX13_refuses_1 : decode cX13_refuses 1 = .ok (.getfield 159, 3) := by decide +kernel
theorem dX13_refuses_4 : decode cX13_refuses 4 = .ok (.iload_n 1, 1) := by decide +kernel
theorem dX13_refuses_5 : decode cX13_refuses 5 = .ok (.dup2, 1) := by decide +kernel
theorem dX13_refuses_6 : decode cX13_refuses 6 = .ok (.iaload, 1) := by decide +kernel
theorem dX13_refuses_7 : decode cX13_refuses 7 = .ok (.iconst 1, 1) := by decide +kernel
theorem dX13_refuses_8 : decode cX13_refuses 8 = .ok (.iadd, 1) := by decide +kernel
theorem dX13_refuses_9 : decode cX13_refuses 9 = .ok (.iastore, 1) := by decide +kernel
theorem dX13_refuses_10 : decode cX13_refuses 10 = .ok (.iconst (-1), 1) := by decide +kernel
theorem dX13_refuses_11 : decode cX13_refuses 11 = .ok (.ireturn, 1) := by decide +kernel
theorem dX13_status_0 : decode cX13_status 0 = .ok (.iload_n 1, 1) := by decide +kernel
theorem dX13_status_1 : decode cX13_status 1 = .ok (.iconst 0, 1) := by decide +kernel
theorem dX13_status_2 : decode cX13_status 2 = .ok (.iconst 5, 1) := by decide +kernel
theorem dX13_status_3 : decode cX13_status 3 = .ok (.invokestatic 347, 3) := by decide +kernel
theorem dX13_status_6 : decode cX13_status 6 = .ok (.ifCond .eq 12, 3) := by decide +kernel
theorem dX13_status_9 : decode cX13_status 9 = .ok (.aload_n 0, 1) := by decide +kernel
theorem dX13_status_10 : decode cX13_status 10 = .ok (.getfield 159, 3) := by decide +kernel
theorem dX13_status_13 : decode cX13_status 13 = .ok (.iload_n 1, 1) := by decide +kernel
theorem dX13_status_14 : decode cX13_status 14 = .ok (.iaload, 1) := by decide +kernel
theorem dX13_status_15 : decode cX13_status 15 = .ok (.goto 4, 3) := by decide +kernel
theorem dX13_status_18 : decode cX13_status 18 = .ok (.iconst (-1), 1) := by decide +kernel
theorem dX13_status_19 : decode cX13_status 19 = .ok (.ireturn, 1) := by decide +kernel
theorem dX13_copies_0 : decode cX13_copies 0 = .ok (.aload_n 0, 1) := by decide +kernel
theorem dX13_copies_1 : decode cX13_copies 1 = .ok (.getfield 162, 3) := by decide +kernel
theorem dX13_copies_4 : decode cX13_copies 4 = .ok (.iload_n 1, 1) := by decide +kernel
theorem dX13_copies_5 : decode cX13_copies 5 = .ok (.aload_n 0, 1) := by decide +kernel
theorem dX13_copies_6 : decode cX13_copies 6 = .ok (.getfield 162, 3) := by decide +kernel
theorem dX13_copies_9 : decode cX13_copies 9 = .ok (.iload_n 2, 1) := by decide +kernel
theorem dX13_copies_10 : decode cX13_copies 10 = .ok (.iaload, 1) := by decide +kernel
theorem dX13_copies_11 : decode cX13_copies 11 = .ok (.iastore, 1) := by decide +kernel
theorem dX13_copies_12 : decode cX13_copies 12 = .ok (.aload_n 0, 1) := by decide +kernel
theorem dX13_copies_13 : decode cX13_copies 13 = .ok (.getfield 165, 3) := by decide +kernel
theorem dX13_copies_16 : decode cX13_copies 16 = .ok (.iload_n 1, 1) := by decide +kernel
theorem dX13_copies_17 : decode cX13_copies 17 = .ok (.aload_n 0, 1) := by decide +kernel
theorem dX13_copies_18 : decode cX13_copies 18 = .ok (.getfield 165, 3) := by decide +kernel
theorem dX13_copies_21 : decode cX13_copies 21 = .ok (.iload_n 2, 1) := by decide +kernel
theorem dX13_copies_22 : decode cX13_copies 22 = .ok (.iaload, 1) := by decide +kernel
theorem dX13_copies_23 : decode cX13_copies 23 = .ok (.iastore, 1) := by decide +kernel
theorem dX13_copies_24 : decode cX13_copies 24 = .ok (.iconst 0, 1) := by decide +kernel
theorem dX13_copies_25 : decode cX13_copies 25 = .ok (.istore_n 3, 1) := by decide +kernel
theorem dX13_copies_26 : decode cX13_copies 26 = .ok (.iload_n 3, 1) := by decide +kernel
theorem dX13_copies_27 : decode cX13_copies 27 = .ok (.bipush 8, 2) := by decide +kernel
theorem dX13_copies_29 : decode cX13_copies 29 = .ok (.if_icmp .ge 119, 3) := by decide +kernel
theorem dX13_copies_32 : decode cX13_copies 32 = .ok (.aload_n 0, 1) := by decide +kernel
theorem dX13_copies_33 : decode cX13_copies 33 = .ok (.getfield 168, 3) := by decide +kernel
theorem dX13_copies_36 : decode cX13_copies 36 = .ok (.bipush 8, 2) := by decide +kernel
theorem dX13_copies_38 : decode cX13_copies 38 = .ok (.iload_n 1, 1) := by decide +kernel
theorem dX13_copies_39 : decode cX13_copies 39 = .ok (.imul, 1) := by decide +kernel
theorem dX13_copies_40 : decode cX13_copies 40 = .ok (.iload_n 3, 1) := by decide +kernel
theorem dX13_copies_41 : decode cX13_copies 41 = .ok (.iadd, 1) := by decide +kernel
theorem dX13_copies_42 : decode cX13_copies 42 = .ok (.aload_n 0, 1) := by decide +kernel
theorem dX13_copies_43 : decode cX13_copies 43 = .ok (.getfield 168, 3) := by decide +kernel
theorem dX13_copies_46 : decode cX13_copies 46 = .ok (.bipush 8, 2) := by decide +kernel
theorem dX13_copies_48 : decode cX13_copies 48 = .ok (.iload_n 2, 1) := by decide +kernel
theorem dX13_copies_49 : decode cX13_copies 49 = .ok (.imul, 1) := by decide +kernel
theorem dX13_copies_50 : decode cX13_copies 50 = .ok (.iload_n 3, 1) := by decide +kernel
theorem dX13_copies_51 : decode cX13_copies 51 = .ok (.iadd, 1) := by decide +kernel
theorem dX13_copies_52 : decode cX13_copies 52 = .ok (.iaload, 1) := by decide +kernel
theorem dX13_copies_53 : decode cX13_copies 53 = .ok (.iastore, 1) := by decide +kernel
theorem dX13_copies_54 : decode cX13_copies 54 = .ok (.aload_n 0, 1) := by decide +kernel
theorem dX13_copies_55 : decode cX13_copies 55 = .ok (.getfield 171, 3) := by decide +kernel
theorem dX13_copies_58 : decode cX13_copies 58 = .ok (.bipush 8, 2) := by decide +kernel
theorem dX13_copies_60 : decode cX13_copies 60 = .ok (.iload_n 1, 1) := by decide +kernel
theorem dX13_copies_61 : decode cX13_copies 61 = .ok (.imul, 1) := by decide +kernel
theorem dX13_copies_62 : decode cX13_copies 62 = .ok (.iload_n 3, 1) := by decide +kernel
theorem dX13_copies_63 : decode cX13_copies 63 = .ok (.iadd, 1) := by decide +kernel
theorem dX13_copies_64 : decode cX13_copies 64 = .ok (.aload_n 0, 1) := by decide +kernel
theorem dX13_copies_65 : decode cX13_copies 65 = .ok (.getfield 171, 3) := by decide +kernel
theorem dX13_copies_68 : decode cX13_copies 68 = .ok (.bipush 8, 2) := by decide +kernel
theorem dX13_copies_70 : decode cX13_copies 70 = .ok (.iload_n 2, 1) := by decide +kernel
theorem dX13_copies_71 : decode cX13_copies 71 = .ok (.imul, 1) := by decide +kernel
theorem dX13_copies_72 : decode cX13_copies 72 = .ok (.iload_n 3, 1) := by decide +kernel
theorem dX13_copies_73 : decode cX13_copies 73 = .ok (.iadd, 1) := by decide +kernel
theorem dX13_copies_74 : decode cX13_copies 74 = .ok (.iaload, 1) := by decide +kernel
theorem dX13_copies_75 : decode cX13_copies 75 = .ok (.iastore, 1) := by decide +kernel
theorem dX13_copies_76 : decode cX13_copies 76 = .ok (.aload_n 0, 1) := by decide +kernel
theorem dX13_copies_77 : decode cX13_copies 77 = .ok (.getfield 174, 3) := by decide +kernel
theorem dX13_copies_80 : decode cX13_copies 80 = .ok (.bipush 8, 2) := by decide +kernel
theorem dX13_copies_82 : decode cX13_copies 82 = .ok (.iload_n 1, 1) := by decide +kernel
theorem dX13_copies_83 : decode cX13_copies 83 = .ok (.imul, 1) := by decide +kernel
theorem dX13_copies_84 : decode cX13_copies 84 = .ok (.iload_n 3, 1) := by decide +kernel
theorem dX13_copies_85 : decode cX13_copies 85 = .ok (.iadd, 1) := by decide +kernel
theorem dX13_copies_86 : decode cX13_copies 86 = .ok (.aload_n 0, 1) := by decide +kernel
theorem dX13_copies_87 : decode cX13_copies 87 = .ok (.getfield 174, 3) := by decide +kernel
theorem dX13_copies_90 : decode cX13_copies 90 = .ok (.bipush 8, 2) := by decide +kernel
theorem dX13_copies_92 : decode cX13_copies 92 = .ok (.iload_n 2, 1) := by decide +kernel
theorem dX13_copies_93 : decode cX13_copies 93 = .ok (.imul, 1) := by decide +kernel
theorem dX13_copies_94 : decode cX13_copies 94 = .ok (.iload_n 3, 1) := by decide +kernel
theorem dX13_copies_95 : decode cX13_copies 95 = .ok (.iadd, 1) := by decide +kernel
theorem dX13_copies_96 : decode cX13_copies 96 = .ok (.iaload, 1) := by decide +kernel
theorem dX13_copies_97 : decode cX13_copies 97 = .ok (.iastore, 1) := by decide +kernel
theorem dX13_copies_98 : decode cX13_copies 98 = .ok (.aload_n 0, 1) := by decide +kernel
theorem dX13_copies_99 : decode cX13_copies 99 = .ok (.getfield 177, 3) := by decide +kernel
theorem dX13_copies_102 : decode cX13_copies 102 = .ok (.bipush 8, 2) := by decide +kernel
theorem dX13_copies_104 : decode cX13_copies 104 = .ok (.iload_n 1, 1) := by decide +kernel
theorem dX13_copies_105 : decode cX13_copies 105 = .ok (.imul, 1) := by decide +kernel
theorem dX13_copies_106 : decode cX13_copies 106 = .ok (.iload_n 3, 1) := by decide +kernel
theorem dX13_copies_107 : decode cX13_copies 107 = .ok (.iadd, 1) := by decide +kernel
theorem dX13_copies_108 : decode cX13_copies 108 = .ok (.aload_n 0, 1) := by decide +kernel
theorem dX13_copies_109 : decode cX13_copies 109 = .ok (.getfield 177, 3) := by decide +kernel
theorem dX13_copies_112 : decode cX13_copies 112 = .ok (.bipush 8, 2) := by decide +kernel
theorem dX13_copies_114 : decode cX13_copies 114 = .ok (.iload_n 2, 1) := by decide +kernel
theorem dX13_copies_115 : decode cX13_copies 115 = .ok (.imul, 1) := by decide +kernel
theorem dX13_copies_116 : decode cX13_copies 116 = .ok (.iload_n 3, 1) := by decide +kernel
theorem dX13_copies_117 : decode cX13_copies 117 = .ok (.iadd, 1) := by decide +kernel
theorem dX13_copies_118 : decode cX13_copies 118 = .ok (.iaload, 1) := by decide +kernel
theorem dX13_copies_119 : decode cX13_copies 119 = .ok (.iastore, 1) := by decide +kernel
theorem dX13_copies_120 : decode cX13_copies 120 = .ok (.aload_n 0, 1) := by decide +kernel
theorem dX13_copies_121 : decode cX13_copies 121 = .ok (.getfield 180, 3) := by decide +kernel
theorem dX13_copies_124 : decode cX13_copies 124 = .ok (.bipush 8, 2) := by decide +kernel
theorem dX13_copies_126 : decode cX13_copies 126 = .ok (.iload_n 1, 1) := by decide +kernel
theorem dX13_copies_127 : decode cX13_copies 127 = .ok (.imul, 1) := by decide +kernel
theorem dX13_copies_128 : decode cX13_copies 128 = .ok (.iload_n 3, 1) := by decide +kernel
theorem dX13_copies_129 : decode cX13_copies 129 = .ok (.iadd, 1) := by decide +kernel
theorem dX13_copies_130 : decode cX13_copies 130 = .ok (.aload_n 0, 1) := by decide +kernel
theorem dX13_copies_131 : decode cX13_copies 131 = .ok (.getfield 180, 3) := by decide +kernel
theorem dX13_copies_134 : decode cX13_copies 134 = .ok (.bipush 8, 2) := by decide +kernel
theorem dX13_copies_136 : decode cX13_copies 136 = .ok (.iload_n 2, 1) := by decide +kernel
theorem dX13_copies_137 : decode cX13_copies 137 = .ok (.imul, 1) := by decide +kernel
theorem dX13_copies_138 : decode cX13_copies 138 = .ok (.iload_n 3, 1) := by decide +kernel
theorem dX13_copies_139 : decode cX13_copies 139 = .ok (.iadd, 1) := by decide +kernel
theorem dX13_copies_140 : decode cX13_copies 140 = .ok (.iaload, 1) := by decide +kernel
theorem dX13_copies_141 : decode cX13_copies 141 = .ok (.iastore, 1) := by decide +kernel
theorem dX13_copies_142 : decode cX13_copies 142 = .ok (.iinc 3 1, 3) := by decide +kernel
theorem dX13_copies_145 : decode cX13_copies 145 = .ok (.goto (-119), 3) := by decide +kernel
theorem dX13_copies_148 : decode cX13_copies 148 = .ok (.aload_n 0, 1) := by decide +kernel
theorem dX13_copies_149 : decode cX13_copies 149 = .ok (.getfield 183, 3) := by decide +kernel
theorem dX13_copies_152 : decode cX13_copies 152 = .ok (.iload_n 1, 1) := by decide +kernel
theorem dX13_copies_153 : decode cX13_copies 153 = .ok (.aload_n 0, 1) := by decide +kernel
theorem dX13_copies_154 : decode cX13_copies 154 = .ok (.getfield 183, 3) := by decide +kernel
theorem dX13_copies_157 : decode cX13_copies 157 = .ok (.iload_n 2, 1) := by decide +kernel
theorem dX13_copies_158 : decode cX13_copies 158 = .ok (.iaload, 1) := by decide +kernel
theorem dX13_copies_159 : decode cX13_copies 159 = .ok (.iastore, 1) := by decide +kernel
theorem dX13_copies_160 : decode cX13_copies 160 = .ok (.iconst 0, 1) := by decide +kernel
theorem dX13_copies_161 : decode cX13_copies 161 = .ok (.istore_n 3, 1) := by decide +kernel
theorem dX13_copies_162 : decode cX13_copies 162 = .ok (.iload_n 3, 1) := by decide +kernel
theorem dX13_copies_163 : decode cX13_copies 163 = .ok (.iconst 4, 1) := by decide +kernel
theorem dX13_copies_164 : decode cX13_copies 164 = .ok (.aload_n 0, 1) := by decide +kernel
theorem dX13_copies_165 : decode cX13_copies 165 = .ok (.getfield 183, 3) := by decide +kernel
theorem dX13_copies_168 : decode cX13_copies 168 = .ok (.iload_n 2, 1) := by decide +kernel
theorem dX13_copies_169 : decode cX13_copies 169 = .ok (.iaload, 1) := by decide +kernel
theorem dX13_copies_170 : decode cX13_copies 170 = .ok (.imul, 1) := by decide +kernel
theorem dX13_copies_171 : decode cX13_copies 171 = .ok (.if_icmp .ge 33, 3) := by decide +kernel
theorem dX13_copies_174 : decode cX13_copies 174 = .ok (.aload_n 0, 1) := by decide +kernel
theorem dX13_copies_175 : decode cX13_copies 175 = .ok (.getfield 186, 3) := by decide +kernel
theorem dX13_copies_178 : decode cX13_copies 178 = .ok (.sipush 240, 3) := by decide +kernel
theorem dX13_copies_181 : decode cX13_copies 181 = .ok (.iload_n 1, 1) := by decide +kernel
theorem dX13_copies_182 : decode cX13_copies 182 = .ok (.imul, 1) := by decide +kernel
theorem dX13_copies_183 : decode cX13_copies 183 = .ok (.iload_n 3, 1) := by decide +kernel
theorem dX13_copies_184 : decode cX13_copies 184 = .ok (.iadd, 1) := by decide +kernel
theorem dX13_copies_185 : decode cX13_copies 185 = .ok (.aload_n 0, 1) := by decide +kernel
theorem dX13_copies_186 : decode cX13_copies 186 = .ok (.getfield 186, 3) := by decide +kernel
theorem dX13_copies_189 : decode cX13_copies 189 = .ok (.sipush 240, 3) := by decide +kernel
theorem dX13_copies_192 : decode cX13_copies 192 = .ok (.iload_n 2, 1) := by decide +kernel
theorem dX13_copies_193 : decode cX13_copies 193 = .ok (.imul, 1) := by decide +kernel
theorem dX13_copies_194 : decode cX13_copies 194 = .ok (.iload_n 3, 1) := by decide +kernel
theorem dX13_copies_195 : decode cX13_copies 195 = .ok (.iadd, 1) := by decide +kernel
theorem dX13_copies_196 : decode cX13_copies 196 = .ok (.iaload, 1) := by decide +kernel
theorem dX13_copies_197 : decode cX13_copies 197 = .ok (.iastore, 1) := by decide +kernel
theorem dX13_copies_198 : decode cX13_copies 198 = .ok (.iinc 3 1, 3) := by decide +kernel
theorem dX13_copies_201 : decode cX13_copies 201 = .ok (.goto (-39), 3) := by decide +kernel
theorem dX13_copies_204 : decode cX13_copies 204 = .ok (.return_, 1) := by decide +kernel
theorem dX13_begin_0 : decode cX13_begin 0 = .ok (.aload_n 0, 1) := by decide +kernel
theorem dX13_begin_1 : decode cX13_begin 1 = .ok (.getfield 162, 3) := by decide +kernel
theorem dX13_begin_4 : decode cX13_begin 4 = .ok (.iconst 0, 1) := by decide +kernel
theorem dX13_begin_5 : decode cX13_begin 5 = .ok (.iconst 0, 1) := by decide +kernel
theorem dX13_begin_6 : decode cX13_begin 6 = .ok (.iastore, 1) := by decide +kernel
theorem dX13_begin_7 : decode cX13_begin 7 = .ok (.aload_n 0, 1) := by decide +kernel
theorem dX13_begin_8 : decode cX13_begin 8 = .ok (.getfield 165, 3) := by decide +kernel
theorem dX13_begin_11 : decode cX13_begin 11 = .ok (.iconst 0, 1) := by decide +kernel
theorem dX13_begin_12 : decode cX13_begin 12 = .ok (.iconst 0, 1) := by decide +kernel
theorem dX13_begin_13 : decode cX13_begin 13 = .ok (.iastore, 1) := by decide +kernel
theorem dX13_begin_14 : decode cX13_begin 14 = .ok (.iconst 0, 1) := by decide +kernel
theorem dX13_begin_15 : decode cX13_begin 15 = .ok (.istore_n 1, 1) := by decide +kernel
theorem dX13_begin_16 : decode cX13_begin 16 = .ok (.iload_n 1, 1) := by decide +kernel
theorem dX13_begin_17 : decode cX13_begin 17 = .ok (.bipush 8, 2) := by decide +kernel
theorem dX13_begin_19 : decode cX13_begin 19 = .ok (.if_icmp .ge 57, 3) := by decide +kernel
theorem dX13_begin_22 : decode cX13_begin 22 = .ok (.aload_n 0, 1) := by decide +kernel
theorem dX13_begin_23 : decode cX13_begin 23 = .ok (.getfield 168, 3) := by decide +kernel
theorem dX13_begin_26 : decode cX13_begin 26 = .ok (.iload_n 1, 1) := by decide +kernel
theorem dX13_begin_27 : decode cX13_begin 27 = .ok (.aload_n 0, 1) := by decide +kernel
theorem dX13_begin_28 : decode cX13_begin 28 = .ok (.getfield 66, 3) := by decide +kernel
theorem dX13_begin_31 : decode cX13_begin 31 = .ok (.bipush 8, 2) := by decide +kernel
theorem dX13_begin_33 : decode cX13_begin 33 = .ok (.aload_n 0, 1) := by decide +kernel
theorem dX13_begin_34 : decode cX13_begin 34 = .ok (.getfield 51, 3) := by decide +kernel
theorem dX13_begin_37 : decode cX13_begin 37 = .ok (.imul, 1) := by decide +kernel
theorem dX13_begin_38 : decode cX13_begin 38 = .ok (.iload_n 1, 1) := by decide +kernel
theorem dX13_begin_39 : decode cX13_begin 39 = .ok (.iadd, 1) := by decide +kernel
theorem dX13_begin_40 : decode cX13_begin 40 = .ok (.iaload, 1) := by decide +kernel
theorem dX13_begin_41 : decode cX13_begin 41 = .ok (.iastore, 1) := by decide +kernel
theorem dX13_begin_42 : decode cX13_begin 42 = .ok (.aload_n 0, 1) := by decide +kernel
theorem dX13_begin_43 : decode cX13_begin 43 = .ok (.getfield 171, 3) := by decide +kernel
theorem dX13_begin_46 : decode cX13_begin 46 = .ok (.iload_n 1, 1) := by decide +kernel
theorem dX13_begin_47 : decode cX13_begin 47 = .ok (.iconst 0, 1) := by decide +kernel
theorem dX13_begin_48 : decode cX13_begin 48 = .ok (.iastore, 1) := by decide +kernel
theorem dX13_begin_49 : decode cX13_begin 49 = .ok (.aload_n 0, 1) := by decide +kernel
theorem dX13_begin_50 : decode cX13_begin 50 = .ok (.getfield 174, 3) := by decide +kernel
theorem dX13_begin_53 : decode cX13_begin 53 = .ok (.iload_n 1, 1) := by decide +kernel
theorem dX13_begin_54 : decode cX13_begin 54 = .ok (.iconst (-1), 1) := by decide +kernel
theorem dX13_begin_55 : decode cX13_begin 55 = .ok (.iastore, 1) := by decide +kernel
theorem dX13_begin_56 : decode cX13_begin 56 = .ok (.aload_n 0, 1) := by decide +kernel
theorem dX13_begin_57 : decode cX13_begin 57 = .ok (.getfield 177, 3) := by decide +kernel
theorem dX13_begin_60 : decode cX13_begin 60 = .ok (.iload_n 1, 1) := by decide +kernel
theorem dX13_begin_61 : decode cX13_begin 61 = .ok (.iconst 0, 1) := by decide +kernel
theorem dX13_begin_62 : decode cX13_begin 62 = .ok (.iastore, 1) := by decide +kernel
theorem dX13_begin_63 : decode cX13_begin 63 = .ok (.aload_n 0, 1) := by decide +kernel
theorem dX13_begin_64 : decode cX13_begin 64 = .ok (.getfield 180, 3) := by decide +kernel
theorem dX13_begin_67 : decode cX13_begin 67 = .ok (.iload_n 1, 1) := by decide +kernel
theorem dX13_begin_68 : decode cX13_begin 68 = .ok (.iconst 0, 1) := by decide +kernel
theorem dX13_begin_69 : decode cX13_begin 69 = .ok (.iastore, 1) := by decide +kernel
theorem dX13_begin_70 : decode cX13_begin 70 = .ok (.iinc 1 1, 3) := by decide +kernel
theorem dX13_begin_73 : decode cX13_begin 73 = .ok (.goto (-57), 3) := by decide +kernel
theorem dX13_begin_76 : decode cX13_begin 76 = .ok (.aload_n 0, 1) := by decide +kernel
theorem dX13_begin_77 : decode cX13_begin 77 = .ok (.getfield 183, 3) := by decide +kernel
theorem dX13_begin_80 : decode cX13_begin 80 = .ok (.iconst 0, 1) := by decide +kernel
theorem dX13_begin_81 : decode cX13_begin 81 = .ok (.iconst 0, 1) := by decide +kernel
theorem dX13_begin_82 : decode cX13_begin 82 = .ok (.iastore, 1) := by decide +kernel
theorem dX13_begin_83 : decode cX13_begin 83 = .ok (.aload_n 0, 1) := by decide +kernel
theorem dX13_begin_84 : decode cX13_begin 84 = .ok (.iconst 0, 1) := by decide +kernel
theorem dX13_begin_85 : decode cX13_begin 85 = .ok (.putfield 192, 3) := by decide +kernel
theorem dX13_begin_88 : decode cX13_begin 88 = .ok (.aload_n 0, 1) := by decide +kernel
theorem dX13_begin_89 : decode cX13_begin 89 = .ok (.iconst 0, 1) := by decide +kernel
theorem dX13_begin_90 : decode cX13_begin 90 = .ok (.putfield 219, 3) := by decide +kernel
theorem dX13_begin_93 : decode cX13_begin 93 = .ok (.aload_n 0, 1) := by decide +kernel
theorem dX13_begin_94 : decode cX13_begin 94 = .ok (.iconst 0, 1) := by decide +kernel
theorem dX13_begin_95 : decode cX13_begin 95 = .ok (.putfield 222, 3) := by decide +kernel
theorem dX13_begin_98 : decode cX13_begin 98 = .ok (.return_, 1) := by decide +kernel
theorem dX13_slot_0 : decode cX13_slot 0 = .ok (.iconst 3, 1) := by decide +kernel
theorem dX13_slot_1 : decode cX13_slot 1 = .ok (.aload_n 0, 1) := by decide +kernel
theorem dX13_slot_2 : decode cX13_slot 2 = .ok (.getfield 189, 3) := by decide +kernel
theorem dX13_slot_5 : decode cX13_slot 5 = .ok (.iload_n 1, 1) := by decide +kernel
theorem dX13_slot_6 : decode cX13_slot 6 = .ok (.iadd, 1) := by decide +kernel
theorem dX13_slot_7 : decode cX13_slot 7 = .ok (.bipush 20, 2) := by decide +kernel
theorem dX13_slot_9 : decode cX13_slot 9 = .ok (.irem, 1) := by decide +kernel
theorem dX13_slot_10 : decode cX13_slot 10 = .ok (.iadd, 1) := by decide +kernel
theorem dX13_slot_11 : decode cX13_slot 11 = .ok (.ireturn, 1) := by decide +kernel
theorem dX13_keeps_0 : decode cX13_keeps 0 = .ok (.aload_n 0, 1) := by decide +kernel
theorem dX13_keeps_1 : decode cX13_keeps 1 = .ok (.getfield 192, 3) := by decide +kernel
theorem dX13_keeps_4 : decode cX13_keeps 4 = .ok (.bipush 20, 2) := by decide +kernel
theorem dX13_keeps_6 : decode cX13_keeps 6 = .ok (.if_icmp .ne 26, 3) := by decide +kernel
theorem dX13_keeps_9 : decode cX13_keeps 9 = .ok (.aload_n 0, 1) := by decide +kernel
theorem dX13_keeps_10 : decode cX13_keeps 10 = .ok (.aload_n 0, 1) := by decide +kernel
theorem dX13_keeps_11 : decode cX13_keeps 11 = .ok (.getfield 189, 3) := by decide +kernel
theorem dX13_keeps_14 : decode cX13_keeps 14 = .ok (.iconst 1, 1) := by decide +kernel
theorem dX13_keeps_15 : decode cX13_keeps 15 = .ok (.iadd, 1) := by decide +kernel
theorem dX13_keeps_16 : decode cX13_keeps 16 = .ok (.bipush 20, 2) := by decide +kernel
theorem dX13_keeps_18 : decode cX13_keeps 18 = .ok (.irem, 1) := by decide +kernel
theorem dX13_keeps_19 : decode cX13_keeps 19 = .ok (.putfield 189, 3) := by decide +kernel
theorem dX13_keeps_22 : decode cX13_keeps 22 = .ok (.aload_n 0, 1) := by decide +kernel
theorem dX13_keeps_23 : decode cX13_keeps 23 = .ok (.dup, 1) := by decide +kernel
theorem dX13_keeps_24 : decode cX13_keeps 24 = .ok (.getfield 192, 3) := by decide +kernel
theorem dX13_keeps_27 : decode cX13_keeps 27 = .ok (.iconst 1, 1) := by decide +kernel
theorem dX13_keeps_28 : decode cX13_keeps 28 = .ok (.isub, 1) := by decide +kernel
theorem dX13_keeps_29 : decode cX13_keeps 29 = .ok (.putfield 192, 3) := by decide +kernel
theorem dX13_keeps_32 : decode cX13_keeps 32 = .ok (.aload_n 0, 1) := by decide +kernel
theorem dX13_keeps_33 : decode cX13_keeps 33 = .ok (.aload_n 0, 1) := by decide +kernel
theorem dX13_keeps_34 : decode cX13_keeps 34 = .ok (.aload_n 0, 1) := by decide +kernel
theorem dX13_keeps_35 : decode cX13_keeps 35 = .ok (.getfield 192, 3) := by decide +kernel
theorem dX13_keeps_38 : decode cX13_keeps 38 = .ok (.invokevirtual 458, 3) := by decide +kernel
theorem dX13_keeps_41 : decode cX13_keeps 41 = .ok (.iconst 0, 1) := by decide +kernel
theorem dX13_keeps_42 : decode cX13_keeps 42 = .ok (.invokevirtual 461, 3) := by decide +kernel
theorem dX13_keeps_45 : decode cX13_keeps 45 = .ok (.aload_n 0, 1) := by decide +kernel
theorem dX13_keeps_46 : decode cX13_keeps 46 = .ok (.dup, 1) := by decide +kernel
theorem dX13_keeps_47 : decode cX13_keeps 47 = .ok (.getfield 192, 3) := by decide +kernel
theorem dX13_keeps_50 : decode cX13_keeps 50 = .ok (.iconst 1, 1) := by decide +kernel
theorem dX13_keeps_51 : decode cX13_keeps 51 = .ok (.iadd, 1) := by decide +kernel
theorem dX13_keeps_52 : decode cX13_keeps 52 = .ok (.putfield 192, 3) := by decide +kernel
theorem dX13_keeps_55 : decode cX13_keeps 55 = .ok (.return_, 1) := by decide +kernel
theorem dX13_undo_0 : decode cX13_undo 0 = .ok (.aload_n 0, 1) := by decide +kernel
theorem dX13_undo_1 : decode cX13_undo 1 = .ok (.getfield 192, 3) := by decide +kernel
theorem dX13_undo_4 : decode cX13_undo 4 = .ok (.ifCond .ne 17, 3) := by decide +kernel
theorem dX13_undo_7 : decode cX13_undo 7 = .ok (.aload_n 0, 1) := by decide +kernel
theorem dX13_undo_8 : decode cX13_undo 8 = .ok (.iconst 4, 1) := by decide +kernel
theorem dX13_undo_9 : decode cX13_undo 9 = .ok (.invokevirtual 250, 3) := by decide +kernel
theorem dX13_undo_12 : decode cX13_undo 12 = .ok (.ifCond .lt 7, 3) := by decide +kernel
theorem dX13_undo_15 : decode cX13_undo 15 = .ok (.iconst 1, 1) := by decide +kernel
theorem dX13_undo_16 : decode cX13_undo 16 = .ok (.goto 4, 3) := by decide +kernel
theorem dX13_undo_19 : decode cX13_undo 19 = .ok (.iconst 0, 1) := by decide +kernel
theorem dX13_undo_20 : decode cX13_undo 20 = .ok (.ireturn, 1) := by decide +kernel
theorem dX13_undo_21 : decode cX13_undo 21 = .ok (.aload_n 0, 1) := by decide +kernel
theorem dX13_undo_22 : decode cX13_undo 22 = .ok (.dup, 1) := by decide +kernel
theorem dX13_undo_23 : decode cX13_undo 23 = .ok (.getfield 192, 3) := by decide +kernel
theorem dX13_undo_26 : decode cX13_undo 26 = .ok (.iconst 1, 1) := by decide +kernel
theorem dX13_undo_27 : decode cX13_undo 27 = .ok (.isub, 1) := by decide +kernel
theorem dX13_undo_28 : decode cX13_undo 28 = .ok (.putfield 192, 3) := by decide +kernel
theorem dX13_undo_31 : decode cX13_undo 31 = .ok (.aload_n 0, 1) := by decide +kernel
theorem dX13_undo_32 : decode cX13_undo 32 = .ok (.iconst 0, 1) := by decide +kernel
theorem dX13_undo_33 : decode cX13_undo 33 = .ok (.aload_n 0, 1) := by decide +kernel
theorem dX13_undo_34 : decode cX13_undo 34 = .ok (.aload_n 0, 1) := by decide +kernel
theorem dX13_undo_35 : decode cX13_undo 35 = .ok (.getfield 192, 3) := by decide +kernel
theorem dX13_undo_38 : decode cX13_undo 38 = .ok (.invokevirtual 458, 3) := by decide +kernel
theorem dX13_undo_41 : decode cX13_undo 41 = .ok (.invokevirtual 461, 3) := by decide +kernel
theorem dX13_undo_44 : decode cX13_undo 44 = .ok (.iconst 1, 1) := by decide +kernel
theorem dX13_undo_45 : decode cX13_undo 45 = .ok (.ireturn, 1) := by decide +kernel
theorem dX13_held_0 : decode cX13_held 0 = .ok (.lload_n 0, 1) := by decide +kernel
theorem dX13_held_1 : decode cX13_held 1 = .ok (.ldc2_w 464, 3) := by decide +kernel
theorem dX13_held_4 : decode cX13_held 4 = .ok (.lcmp, 1) := by decide +kernel
theorem dX13_held_5 : decode cX13_held 5 = .ok (.ifCond .le 9, 3) := by decide +kernel
theorem dX13_held_8 : decode cX13_held 8 = .ok (.ldc2_w 464, 3) := by decide +kernel
theorem dX13_held_11 : decode cX13_held 11 = .ok (.goto 18, 3) := by decide +kernel
theorem dX13_held_14 : decode cX13_held 14 = .ok (.lload_n 0, 1) := by decide +kernel
theorem dX13_held_15 : decode cX13_held 15 = .ok (.ldc2_w 466, 3) := by decide +kernel
theorem dX13_held_18 : decode cX13_held 18 = .ok (.lcmp, 1) := by decide +kernel
theorem dX13_held_19 : decode cX13_held 19 = .ok (.ifCond .ge 9, 3) := by decide +kernel
theorem dX13_held_22 : decode cX13_held 22 = .ok (.ldc2_w 466, 3) := by decide +kernel
theorem dX13_held_25 : decode cX13_held 25 = .ok (.goto 4, 3) := by decide +kernel
theorem dX13_held_28 : decode cX13_held 28 = .ok (.lload_n 0, 1) := by decide +kernel
theorem dX13_held_29 : decode cX13_held 29 = .ok (.lreturn, 1) := by decide +kernel
theorem dX13_floor_0 : decode cX13_floor 0 = .ok (.lload_n 2, 1) := by decide +kernel
theorem dX13_floor_1 : decode cX13_floor 1 = .ok (.lconst 0, 1) := by decide +kernel
theorem dX13_floor_2 : decode cX13_floor 2 = .ok (.lcmp, 1) := by decide +kernel
theorem dX13_floor_3 : decode cX13_floor 3 = .ok (.ifCond .ne 5, 3) := by decide +kernel
theorem dX13_floor_6 : decode cX13_floor 6 = .ok (.lconst 0, 1) := by decide +kernel
theorem dX13_floor_7 : decode cX13_floor 7 = .ok (.lreturn, 1) := by decide +kernel
theorem dX13_floor_8 : decode cX13_floor 8 = .ok (.lload_n 0, 1) := by decide +kernel
theorem dX13_floor_9 : decode cX13_floor 9 = .ok (.lload_n 2, 1) := by decide +kernel
theorem dX13_floor_10 : decode cX13_floor 10 = .ok (.ldiv, 1) := by decide +kernel
theorem dX13_floor_11 : decode cX13_floor 11 = .ok (.lstore 4, 2) := by decide +kernel
theorem dX13_floor_13 : decode cX13_floor 13 = .ok (.lload_n 0, 1) := by decide +kernel
theorem dX13_floor_14 : decode cX13_floor 14 = .ok (.lload_n 2, 1) := by decide +kernel
theorem dX13_floor_15 : decode cX13_floor 15 = .ok (.lrem, 1) := by decide +kernel
theorem dX13_floor_16 : decode cX13_floor 16 = .ok (.lconst 0, 1) := by decide +kernel
theorem dX13_floor_17 : decode cX13_floor 17 = .ok (.lcmp, 1) := by decide +kernel
theorem dX13_floor_18 : decode cX13_floor 18 = .ok (.ifCond .eq 35, 3) := by decide +kernel
theorem dX13_floor_21 : decode cX13_floor 21 = .ok (.lload_n 0, 1) := by decide +kernel
theorem dX13_floor_22 : decode cX13_floor 22 = .ok (.lconst 0, 1) := by decide +kernel
theorem dX13_floor_23 : decode cX13_floor 23 = .ok (.lcmp, 1) := by decide +kernel
theorem dX13_floor_24 : decode cX13_floor 24 = .ok (.ifCond .ge 7, 3) := by decide +kernel
theorem dX13_floor_27 : decode cX13_floor 27 = .ok (.iconst 1, 1) := by decide +kernel
theorem dX13_floor_28 : decode cX13_floor 28 = .ok (.goto 4, 3) := by decide +kernel
theorem dX13_floor_31 : decode cX13_floor 31 = .ok (.iconst 0, 1) := by decide +kernel
theorem dX13_floor_32 : decode cX13_floor 32 = .ok (.lload_n 2, 1) := by decide +kernel
theorem dX13_floor_33 : decode cX13_floor 33 = .ok (.lconst 0, 1) := by decide +kernel
theorem dX13_floor_34 : decode cX13_floor 34 = .ok (.lcmp, 1) := by decide +kernel
theorem dX13_floor_35 : decode cX13_floor 35 = .ok (.ifCond .ge 7, 3) := by decide +kernel
theorem dX13_floor_38 : decode cX13_floor 38 = .ok (.iconst 1, 1) := by decide +kernel
theorem dX13_floor_39 : decode cX13_floor 39 = .ok (.goto 4, 3) := by decide +kernel
theorem dX13_floor_42 : decode cX13_floor 42 = .ok (.iconst 0, 1) := by decide +kernel
theorem dX13_floor_43 : decode cX13_floor 43 = .ok (.if_icmp .eq 10, 3) := by decide +kernel
theorem dX13_floor_46 : decode cX13_floor 46 = .ok (.lload 4, 2) := by decide +kernel
theorem dX13_floor_48 : decode cX13_floor 48 = .ok (.lconst 1, 1) := by decide +kernel
theorem dX13_floor_49 : decode cX13_floor 49 = .ok (.lsub, 1) := by decide +kernel
theorem dX13_floor_50 : decode cX13_floor 50 = .ok (.goto 5, 3) := by decide +kernel
theorem dX13_floor_53 : decode cX13_floor 53 = .ok (.lload 4, 2) := by decide +kernel
theorem dX13_floor_55 : decode cX13_floor 55 = .ok (.lreturn, 1) := by decide +kernel
theorem dX13_two_0 : decode cX13_two 0 = .ok (.iload_n 0, 1) := by decide +kernel
theorem dX13_two_1 : decode cX13_two 1 = .ok (.tableswitch 176 31 41 #[59, 66, 73, 80, 89, 112, 124, 136, 148, 160, 172], 59) := by decide +kernel
theorem dX13_two_60 : decode cX13_two 60 = .ok (.lload_n 1, 1) := by decide +kernel
theorem dX13_two_61 : decode cX13_two 61 = .ok (.lload_n 3, 1) := by decide +kernel
theorem dX13_two_62 : decode cX13_two 62 = .ok (.ladd, 1) := by decide +kernel
theorem dX13_two_63 : decode cX13_two 63 = .ok (.invokestatic 468, 3) := by decide +kernel
theorem dX13_two_66 : decode cX13_two 66 = .ok (.lreturn, 1) := by decide +kernel
theorem dX13_two_67 : decode cX13_two 67 = .ok (.lload_n 1, 1) := by decide +kernel
theorem dX13_two_68 : decode cX13_two 68 = .ok (.lload_n 3, 1) := by decide +kernel
theorem dX13_two_69 : decode cX13_two 69 = .ok (.lsub, 1) := by decide +kernel
theorem dX13_two_70 : decode cX13_two 70 = .ok (.invokestatic 468, 3) := by decide +kernel
theorem dX13_two_73 : decode cX13_two 73 = .ok (.lreturn, 1) := by decide +kernel
theorem dX13_two_74 : decode cX13_two 74 = .ok (.lload_n 1, 1) := by decide +kernel
theorem dX13_two_75 : decode cX13_two 75 = .ok (.lload_n 3, 1) := by decide +kernel
theorem dX13_two_76 : decode cX13_two 76 = .ok (.lmul, 1) := by decide +kernel
theorem dX13_two_77 : decode cX13_two 77 = .ok (.invokestatic 468, 3) := by decide +kernel
theorem dX13_two_80 : decode cX13_two 80 = .ok (.lreturn, 1) := by decide +kernel
theorem dX13_two_81 : decode cX13_two 81 = .ok (.lload_n 1, 1) := by decide +kernel
theorem dX13_two_82 : decode cX13_two 82 = .ok (.lload_n 3, 1) := by decide +kernel
theorem dX13_two_83 : decode cX13_two 83 = .ok (.invokestatic 472, 3) := by decide +kernel
theorem dX13_two_86 : decode cX13_two 86 = .ok (.invokestatic 468, 3) := by decide +kernel
theorem dX13_two_89 : decode cX13_two 89 = .ok (.lreturn, 1) := by decide +kernel
theorem dX13_two_90 : decode cX13_two 90 = .ok (.lload_n 3, 1) := by decide +kernel
theorem dX13_two_91 : decode cX13_two 91 = .ok (.lconst 0, 1) := by decide +kernel
theorem dX13_two_92 : decode cX13_two 92 = .ok (.lcmp, 1) := by decide +kernel
theorem dX13_two_93 : decode cX13_two 93 = .ok (.ifCond .ne 7, 3) := by decide +kernel
theorem dX13_two_96 : decode cX13_two 96 = .ok (.lconst 0, 1) := by decide +kernel
theorem dX13_two_97 : decode cX13_two 97 = .ok (.goto 15, 3) := by decide +kernel
theorem dX13_two_100 : decode cX13_two 100 = .ok (.lload_n 1, 1) := by decide +kernel
theorem dX13_two_101 : decode cX13_two 101 = .ok (.lload_n 3, 1) := by decide +kernel
theorem dX13_two_102 : decode cX13_two 102 = .ok (.lload_n 1, 1) := by decide +kernel
theorem dX13_two_103 : decode cX13_two 103 = .ok (.lload_n 3, 1) := by decide +kernel
theorem dX13_two_104 : decode cX13_two 104 = .ok (.invokestatic 472, 3) := by decide +kernel
theorem dX13_two_107 : decode cX13_two 107 = .ok (.lmul, 1) := by decide +kernel
theorem dX13_two_108 : decode cX13_two 108 = .ok (.lsub, 1) := by decide +kernel
theorem dX13_two_109 : decode cX13_two 109 = .ok (.invokestatic 468, 3) := by decide +kernel
theorem dX13_two_112 : decode cX13_two 112 = .ok (.lreturn, 1) := by decide +kernel
theorem dX13_two_113 : decode cX13_two 113 = .ok (.lload_n 1, 1) := by decide +kernel
theorem dX13_two_114 : decode cX13_two 114 = .ok (.lload_n 3, 1) := by decide +kernel
theorem dX13_two_115 : decode cX13_two 115 = .ok (.lcmp, 1) := by decide +kernel
theorem dX13_two_116 : decode cX13_two 116 = .ok (.ifCond .ge 7, 3) := by decide +kernel
theorem dX13_two_119 : decode cX13_two 119 = .ok (.lload_n 1, 1) := by decide +kernel
theorem dX13_two_120 : decode cX13_two 120 = .ok (.goto 4, 3) := by decide +kernel
theorem dX13_two_123 : decode cX13_two 123 = .ok (.lload_n 3, 1) := by decide +kernel
theorem dX13_two_124 : decode cX13_two 124 = .ok (.lreturn, 1) := by decide +kernel
theorem dX13_two_125 : decode cX13_two 125 = .ok (.lload_n 1, 1) := by decide +kernel
theorem dX13_two_126 : decode cX13_two 126 = .ok (.lload_n 3, 1) := by decide +kernel
theorem dX13_two_127 : decode cX13_two 127 = .ok (.lcmp, 1) := by decide +kernel
theorem dX13_two_128 : decode cX13_two 128 = .ok (.ifCond .le 7, 3) := by decide +kernel
theorem dX13_two_131 : decode cX13_two 131 = .ok (.lload_n 1, 1) := by decide +kernel
theorem dX13_two_132 : decode cX13_two 132 = .ok (.goto 4, 3) := by decide +kernel
theorem dX13_two_135 : decode cX13_two 135 = .ok (.lload_n 3, 1) := by decide +kernel
theorem dX13_two_136 : decode cX13_two 136 = .ok (.lreturn, 1) := by decide +kernel
theorem dX13_two_137 : decode cX13_two 137 = .ok (.lload_n 1, 1) := by decide +kernel
theorem dX13_two_138 : decode cX13_two 138 = .ok (.lload_n 3, 1) := by decide +kernel
theorem dX13_two_139 : decode cX13_two 139 = .ok (.lcmp, 1) := by decide +kernel
theorem dX13_two_140 : decode cX13_two 140 = .ok (.ifCond .ge 7, 3) := by decide +kernel
theorem dX13_two_143 : decode cX13_two 143 = .ok (.lconst 1, 1) := by decide +kernel
theorem dX13_two_144 : decode cX13_two 144 = .ok (.goto 4, 3) := by decide +kernel
theorem dX13_two_147 : decode cX13_two 147 = .ok (.lconst 0, 1) := by decide +kernel
theorem dX13_two_148 : decode cX13_two 148 = .ok (.lreturn, 1) := by decide +kernel
theorem dX13_two_149 : decode cX13_two 149 = .ok (.lload_n 1, 1) := by decide +kernel
theorem dX13_two_150 : decode cX13_two 150 = .ok (.lload_n 3, 1) := by decide +kernel
theorem dX13_two_151 : decode cX13_two 151 = .ok (.lcmp, 1) := by decide +kernel
theorem dX13_two_152 : decode cX13_two 152 = .ok (.ifCond .le 7, 3) := by decide +kernel
theorem dX13_two_155 : decode cX13_two 155 = .ok (.lconst 1, 1) := by decide +kernel
theorem dX13_two_156 : decode cX13_two 156 = .ok (.goto 4, 3) := by decide +kernel
theorem dX13_two_159 : decode cX13_two 159 = .ok (.lconst 0, 1) := by decide +kernel
theorem dX13_two_160 : decode cX13_two 160 = .ok (.lreturn, 1) := by decide +kernel
theorem dX13_two_161 : decode cX13_two 161 = .ok (.lload_n 1, 1) := by decide +kernel
theorem dX13_two_162 : decode cX13_two 162 = .ok (.lload_n 3, 1) := by decide +kernel
theorem dX13_two_163 : decode cX13_two 163 = .ok (.lcmp, 1) := by decide +kernel
theorem dX13_two_164 : decode cX13_two 164 = .ok (.ifCond .ne 7, 3) := by decide +kernel
theorem dX13_two_167 : decode cX13_two 167 = .ok (.lconst 1, 1) := by decide +kernel
theorem dX13_two_168 : decode cX13_two 168 = .ok (.goto 4, 3) := by decide +kernel
theorem dX13_two_171 : decode cX13_two 171 = .ok (.lconst 0, 1) := by decide +kernel
theorem dX13_two_172 : decode cX13_two 172 = .ok (.lreturn, 1) := by decide +kernel
theorem dX13_two_173 : decode cX13_two 173 = .ok (.lload_n 1, 1) := by decide +kernel
theorem dX13_two_174 : decode cX13_two 174 = .ok (.lload_n 3, 1) := by decide +kernel
theorem dX13_two_175 : decode cX13_two 175 = .ok (.land, 1) := by decide +kernel
theorem dX13_two_176 : decode cX13_two 176 = .ok (.lreturn, 1) := by decide +kernel
theorem dX13_two_177 : decode cX13_two 177 = .ok (.lload_n 1, 1) := by decide +kernel
theorem dX13_two_178 : decode cX13_two 178 = .ok (.lload_n 3, 1) := by decide +kernel
theorem dX13_two_179 : decode cX13_two 179 = .ok (.lor, 1) := by decide +kernel
theorem dX13_two_180 : decode cX13_two 180 = .ok (.lreturn, 1) := by decide +kernel
theorem dX13_reckons_0 : decode cX13_reckons 0 = .ok (.iconst 0, 1) := by decide +kernel
theorem dX13_reckons_1 : decode cX13_reckons 1 = .ok (.istore_n 2, 1) := by decide +kernel
theorem dX13_reckons_2 : decode cX13_reckons 2 = .ok (.sipush 1600, 3) := by decide +kernel
theorem dX13_reckons_5 : decode cX13_reckons 5 = .ok (.aload_n 0, 1) := by decide +kernel
theorem dX13_reckons_6 : decode cX13_reckons 6 = .ok (.getfield 51, 3) := by decide +kernel
theorem dX13_reckons_9 : decode cX13_reckons 9 = .ok (.imul, 1) := by decide +kernel
theorem dX13_reckons_10 : decode cX13_reckons 10 = .ok (.aload_n 0, 1) := by decide +kernel
theorem dX13_reckons_11 : decode cX13_reckons 11 = .ok (.getfield 96, 3) := by decide +kernel
theorem dX13_reckons_14 : decode cX13_reckons 14 = .ok (.iconst 2, 1) := by decide +kernel
theorem dX13_reckons_15 : decode cX13_reckons 15 = .ok (.aload_n 0, 1) := by decide +kernel
theorem dX13_reckons_16 : decode cX13_reckons 16 = .ok (.getfield 51, 3) := by decide +kernel
theorem dX13_reckons_19 : decode cX13_reckons 19 = .ok (.imul, 1) := by decide +kernel
theorem dX13_reckons_20 : decode cX13_reckons 20 = .ok (.iload_n 1, 1) := by decide +kernel
theorem dX13_reckons_21 : decode cX13_reckons 21 = .ok (.iadd, 1) := by decide +kernel
theorem dX13_reckons_22 : decode cX13_reckons 22 = .ok (.iaload, 1) := by decide +kernel
theorem dX13_reckons_23 : decode cX13_reckons 23 = .ok (.iadd, 1) := by decide +kernel
theorem dX13_reckons_24 : decode cX13_reckons 24 = .ok (.istore_n 3, 1) := by decide +kernel
theorem dX13_reckons_25 : decode cX13_reckons 25 = .ok (.iload_n 3, 1) := by decide +kernel
theorem dX13_reckons_26 : decode cX13_reckons 26 = .ok (.sipush 1600, 3) := by decide +kernel
theorem dX13_reckons_29 : decode cX13_reckons 29 = .ok (.aload_n 0, 1) := by decide +kernel
theorem dX13_reckons_30 : decode cX13_reckons 30 = .ok (.getfield 51, 3) := by decide +kernel
theorem dX13_reckons_33 : decode cX13_reckons 33 = .ok (.imul, 1) := by decide +kernel
theorem dX13_reckons_34 : decode cX13_reckons 34 = .ok (.aload_n 0, 1) := by decide +kernel
theorem dX13_reckons_35 : decode cX13_reckons 35 = .ok (.getfield 99, 3) := by decide +kernel
theorem dX13_reckons_38 : decode cX13_reckons 38 = .ok (.iconst 2, 1) := by decide +kernel
theorem dX13_reckons_39 : decode cX13_reckons 39 = .ok (.aload_n 0, 1) := by decide +kernel
theorem dX13_reckons_40 : decode cX13_reckons 40 = .ok (.getfield 51, 3) := by decide +kernel
theorem dX13_reckons_43 : decode cX13_reckons 43 = .ok (.imul, 1) := by decide +kernel
theorem dX13_reckons_44 : decode cX13_reckons 44 = .ok (.iload_n 1, 1) := by decide +kernel
theorem dX13_reckons_45 : decode cX13_reckons 45 = .ok (.iadd, 1) := by decide +kernel
theorem dX13_reckons_46 : decode cX13_reckons 46 = .ok (.iaload, 1) := by decide +kernel
theorem dX13_reckons_47 : decode cX13_reckons 47 = .ok (.iadd, 1) := by decide +kernel
theorem dX13_reckons_48 : decode cX13_reckons 48 = .ok (.if_icmp .ge 179, 3) := by decide +kernel
theorem dX13_reckons_51 : decode cX13_reckons 51 = .ok (.aload_n 0, 1) := by decide +kernel
theorem dX13_reckons_52 : decode cX13_reckons 52 = .ok (.getfield 102, 3) := by decide +kernel
theorem dX13_reckons_55 : decode cX13_reckons 55 = .ok (.iload_n 3, 1) := by decide +kernel
theorem dX13_reckons_56 : decode cX13_reckons 56 = .ok (.iaload, 1) := by decide +kernel
theorem dX13_reckons_57 : decode cX13_reckons 57 = .ok (.istore 4, 2) := by decide +kernel
theorem dX13_reckons_59 : decode cX13_reckons 59 = .ok (.iload 4, 2) := by decide +kernel
theorem dX13_reckons_61 : decode cX13_reckons 61 = .ok (.bipush 30, 2) := by decide +kernel
theorem dX13_reckons_63 : decode cX13_reckons 63 = .ok (.if_icmp .gt 49, 3) := by decide +kernel
theorem dX13_reckons_66 : decode cX13_reckons 66 = .ok (.aload_n 0, 1) := by decide +kernel
theorem dX13_reckons_67 : decode cX13_reckons 67 = .ok (.getfield 198, 3) := by decide +kernel
theorem dX13_reckons_70 : decode cX13_reckons 70 = .ok (.iload_n 2, 1) := by decide +kernel
theorem dX13_reckons_71 : decode cX13_reckons 71 = .ok (.iload 4, 2) := by decide +kernel
theorem dX13_reckons_73 : decode cX13_reckons 73 = .ok (.ifCond .ne 13, 3) := by decide +kernel
theorem dX13_reckons_76 : decode cX13_reckons 76 = .ok (.aload_n 0, 1) := by decide +kernel
theorem dX13_reckons_77 : decode cX13_reckons 77 = .ok (.getfield 105, 3) := by decide +kernel
theorem dX13_reckons_80 : decode cX13_reckons 80 = .ok (.iload_n 3, 1) := by decide +kernel
theorem dX13_reckons_81 : decode cX13_reckons 81 = .ok (.iaload, 1) := by decide +kernel
theorem dX13_reckons_82 : decode cX13_reckons 82 = .ok (.i2l, 1) := by decide +kernel
theorem dX13_reckons_83 : decode cX13_reckons 83 = .ok (.goto 22, 3) := by decide +kernel
theorem dX13_reckons_86 : decode cX13_reckons 86 = .ok (.iload 4, 2) := by decide +kernel
theorem dX13_reckons_88 : decode cX13_reckons 88 = .ok (.bipush 30, 2) := by decide +kernel
theorem dX13_reckons_90 : decode cX13_reckons 90 = .ok (.if_icmp .ne 7, 3) := by decide +kernel
theorem dX13_reckons_93 : decode cX13_reckons 93 = .ok (.lconst 1, 1) := by decide +kernel
theorem dX13_reckons_94 : decode cX13_reckons 94 = .ok (.goto 11, 3) := by decide +kernel
theorem dX13_reckons_97 : decode cX13_reckons 97 = .ok (.aload_n 0, 1) := by decide +kernel
theorem dX13_reckons_98 : decode cX13_reckons 98 = .ok (.getfield 201, 3) := by decide +kernel
theorem dX13_reckons_101 : decode cX13_reckons 101 = .ok (.iload 4, 2) := by decide +kernel
theorem dX13_reckons_103 : decode cX13_reckons 103 = .ok (.iaload, 1) := by decide +kernel
theorem dX13_reckons_104 : decode cX13_reckons 104 = .ok (.i2l, 1) := by decide +kernel
theorem dX13_reckons_105 : decode cX13_reckons 105 = .ok (.lastore, 1) := by decide +kernel
theorem dX13_reckons_106 : decode cX13_reckons 106 = .ok (.iinc 2 1, 3) := by decide +kernel
theorem dX13_reckons_109 : decode cX13_reckons 109 = .ok (.goto 112, 3) := by decide +kernel
theorem dX13_reckons_112 : decode cX13_reckons 112 = .ok (.iload 4, 2) := by decide +kernel
theorem dX13_reckons_114 : decode cX13_reckons 114 = .ok (.bipush 43, 2) := by decide +kernel
theorem dX13_reckons_116 : decode cX13_reckons 116 = .ok (.if_icmp .ne 24, 3) := by decide +kernel
theorem dX13_reckons_119 : decode cX13_reckons 119 = .ok (.aload_n 0, 1) := by decide +kernel
theorem dX13_reckons_120 : decode cX13_reckons 120 = .ok (.getfield 198, 3) := by decide +kernel
theorem dX13_reckons_123 : decode cX13_reckons 123 = .ok (.iload_n 2, 1) := by decide +kernel
theorem dX13_reckons_124 : decode cX13_reckons 124 = .ok (.iconst 1, 1) := by decide +kernel
theorem dX13_reckons_125 : decode cX13_reckons 125 = .ok (.isub, 1) := by decide +kernel
theorem dX13_reckons_126 : decode cX13_reckons 126 = .ok (.lconst 1, 1) := by decide +kernel
theorem dX13_reckons_127 : decode cX13_reckons 127 = .ok (.aload_n 0, 1) := by decide +kernel
theorem dX13_reckons_128 : decode cX13_reckons 128 = .ok (.getfield 198, 3) := by decide +kernel
theorem dX13_reckons_131 : decode cX13_reckons 131 = .ok (.iload_n 2, 1) := by decide +kernel
theorem dX13_reckons_132 : decode cX13_reckons 132 = .ok (.iconst 1, 1) := by decide +kernel
theorem dX13_reckons_133 : decode cX13_reckons 133 = .ok (.isub, 1) := by decide +kernel
theorem dX13_reckons_134 : decode cX13_reckons 134 = .ok (.laload, 1) := by decide +kernel
theorem dX13_reckons_135 : decode cX13_reckons 135 = .ok (.lsub, 1) := by decide +kernel
theorem dX13_reckons_136 : decode cX13_reckons 136 = .ok (.lastore, 1) := by decide +kernel
theorem dX13_reckons_137 : decode cX13_reckons 137 = .ok (.goto 84, 3) := by decide +kernel
theorem dX13_reckons_140 : decode cX13_reckons 140 = .ok (.iload 4, 2) := by decide +kernel
theorem dX13_reckons_142 : decode cX13_reckons 142 = .ok (.bipush 44, 2) := by decide +kernel
theorem dX13_reckons_144 : decode cX13_reckons 144 = .ok (.if_icmp .ne 47, 3) := by decide +kernel
theorem dX13_reckons_147 : decode cX13_reckons 147 = .ok (.iinc 2 (-2), 3) := by decide +kernel
theorem dX13_reckons_150 : decode cX13_reckons 150 = .ok (.aload_n 0, 1) := by decide +kernel
theorem dX13_reckons_151 : decode cX13_reckons 151 = .ok (.getfield 198, 3) := by decide +kernel
theorem dX13_reckons_154 : decode cX13_reckons 154 = .ok (.iload_n 2, 1) := by decide +kernel
theorem dX13_reckons_155 : decode cX13_reckons 155 = .ok (.iconst 1, 1) := by decide +kernel
theorem dX13_reckons_156 : decode cX13_reckons 156 = .ok (.isub, 1) := by decide +kernel
theorem dX13_reckons_157 : decode cX13_reckons 157 = .ok (.aload_n 0, 1) := by decide +kernel
theorem dX13_reckons_158 : decode cX13_reckons 158 = .ok (.getfield 198, 3) := by decide +kernel
theorem dX13_reckons_161 : decode cX13_reckons 161 = .ok (.iload_n 2, 1) := by decide +kernel
theorem dX13_reckons_162 : decode cX13_reckons 162 = .ok (.iconst 1, 1) := by decide +kernel
theorem dX13_reckons_163 : decode cX13_reckons 163 = .ok (.isub, 1) := by decide +kernel
theorem dX13_reckons_164 : decode cX13_reckons 164 = .ok (.laload, 1) := by decide +kernel
theorem dX13_reckons_165 : decode cX13_reckons 165 = .ok (.lconst 1, 1) := by decide +kernel
theorem dX13_reckons_166 : decode cX13_reckons 166 = .ok (.lcmp, 1) := by decide +kernel
theorem dX13_reckons_167 : decode cX13_reckons 167 = .ok (.ifCond .ne 12, 3) := by decide +kernel
theorem dX13_reckons_170 : decode cX13_reckons 170 = .ok (.aload_n 0, 1) := by decide +kernel
theorem dX13_reckons_171 : decode cX13_reckons 171 = .ok (.getfield 198, 3) := by decide +kernel
theorem dX13_reckons_174 : decode cX13_reckons 174 = .ok (.iload_n 2, 1) := by decide +kernel
theorem dX13_reckons_175 : decode cX13_reckons 175 = .ok (.laload, 1) := by decide +kernel
theorem dX13_reckons_176 : decode cX13_reckons 176 = .ok (.goto 11, 3) := by decide +kernel
theorem dX13_reckons_179 : decode cX13_reckons 179 = .ok (.aload_n 0, 1) := by decide +kernel
theorem dX13_reckons_180 : decode cX13_reckons 180 = .ok (.getfield 198, 3) := by decide +kernel
theorem dX13_reckons_183 : decode cX13_reckons 183 = .ok (.iload_n 2, 1) := by decide +kernel
theorem dX13_reckons_184 : decode cX13_reckons 184 = .ok (.iconst 1, 1) := by decide +kernel
theorem dX13_reckons_185 : decode cX13_reckons 185 = .ok (.iadd, 1) := by decide +kernel
theorem dX13_reckons_186 : decode cX13_reckons 186 = .ok (.laload, 1) := by decide +kernel
theorem dX13_reckons_187 : decode cX13_reckons 187 = .ok (.lastore, 1) := by decide +kernel
theorem dX13_reckons_188 : decode cX13_reckons 188 = .ok (.goto 33, 3) := by decide +kernel
theorem dX13_reckons_191 : decode cX13_reckons 191 = .ok (.iinc 2 (-1), 3) := by decide +kernel
theorem dX13_reckons_194 : decode cX13_reckons 194 = .ok (.aload_n 0, 1) := by decide +kernel
theorem dX13_reckons_195 : decode cX13_reckons 195 = .ok (.getfield 198, 3) := by decide +kernel
theorem dX13_reckons_198 : decode cX13_reckons 198 = .ok (.iload_n 2, 1) := by decide +kernel
theorem dX13_reckons_199 : decode cX13_reckons 199 = .ok (.iconst 1, 1) := by decide +kernel
theorem dX13_reckons_200 : decode cX13_reckons 200 = .ok (.isub, 1) := by decide +kernel
theorem dX13_reckons_201 : decode cX13_reckons 201 = .ok (.iload 4, 2) := by decide +kernel
theorem dX13_reckons_203 : decode cX13_reckons 203 = .ok (.aload_n 0, 1) := by decide +kernel
theorem dX13_reckons_204 : decode cX13_reckons 204 = .ok (.getfield 198, 3) := by decide +kernel
theorem dX13_reckons_207 : decode cX13_reckons 207 = .ok (.iload_n 2, 1) := by decide +kernel
theorem dX13_reckons_208 : decode cX13_reckons 208 = .ok (.iconst 1, 1) := by decide +kernel
theorem dX13_reckons_209 : decode cX13_reckons 209 = .ok (.isub, 1) := by decide +kernel
theorem dX13_reckons_210 : decode cX13_reckons 210 = .ok (.laload, 1) := by decide +kernel
theorem dX13_reckons_211 : decode cX13_reckons 211 = .ok (.aload_n 0, 1) := by decide +kernel
theorem dX13_reckons_212 : decode cX13_reckons 212 = .ok (.getfield 198, 3) := by decide +kernel
theorem dX13_reckons_215 : decode cX13_reckons 215 = .ok (.iload_n 2, 1) := by decide +kernel
theorem dX13_reckons_216 : decode cX13_reckons 216 = .ok (.laload, 1) := by decide +kernel
theorem dX13_reckons_217 : decode cX13_reckons 217 = .ok (.invokestatic 476, 3) := by decide +kernel
theorem dX13_reckons_220 : decode cX13_reckons 220 = .ok (.lastore, 1) := by decide +kernel
theorem dX13_reckons_221 : decode cX13_reckons 221 = .ok (.iinc 3 1, 3) := by decide +kernel
theorem dX13_reckons_224 : decode cX13_reckons 224 = .ok (.goto (-199), 3) := by decide +kernel
theorem dX13_reckons_227 : decode cX13_reckons 227 = .ok (.aload_n 0, 1) := by decide +kernel
theorem dX13_reckons_228 : decode cX13_reckons 228 = .ok (.getfield 198, 3) := by decide +kernel
theorem dX13_reckons_231 : decode cX13_reckons 231 = .ok (.iconst 0, 1) := by decide +kernel
theorem dX13_reckons_232 : decode cX13_reckons 232 = .ok (.laload, 1) := by decide +kernel
theorem dX13_reckons_233 : decode cX13_reckons 233 = .ok (.lreturn, 1) := by decide +kernel
theorem dX13_isTold_0 : decode cX13_isTold 0 = .ok (.aload_n 0, 1) := by decide +kernel
theorem dX13_isTold_1 : decode cX13_isTold 1 = .ok (.getfield 96, 3) := by decide +kernel
theorem dX13_isTold_4 : decode cX13_isTold 4 = .ok (.iconst 2, 1) := by decide +kernel
theorem dX13_isTold_5 : decode cX13_isTold 5 = .ok (.aload_n 0, 1) := by decide +kernel
theorem dX13_isTold_6 : decode cX13_isTold 6 = .ok (.getfield 51, 3) := by decide +kernel
theorem dX13_isTold_9 : decode cX13_isTold 9 = .ok (.imul, 1) := by decide +kernel
theorem dX13_isTold_10 : decode cX13_isTold 10 = .ok (.iload_n 1, 1) := by decide +kernel
theorem dX13_isTold_11 : decode cX13_isTold 11 = .ok (.iadd, 1) := by decide +kernel
theorem dX13_isTold_12 : decode cX13_isTold 12 = .ok (.iaload, 1) := by decide +kernel
theorem dX13_isTold_13 : decode cX13_isTold 13 = .ok (.iconst (-1), 1) := by decide +kernel
theorem dX13_isTold_14 : decode cX13_isTold 14 = .ok (.if_icmp .eq 7, 3) := by decide +kernel
theorem dX13_isTold_17 : decode cX13_isTold 17 = .ok (.iconst 1, 1) := by decide +kernel
theorem dX13_isTold_18 : decode cX13_isTold 18 = .ok (.goto 4, 3) := by decide +kernel
theorem dX13_isTold_21 : decode cX13_isTold 21 = .ok (.iconst 0, 1) := by decide +kernel
theorem dX13_isTold_22 : decode cX13_isTold 22 = .ok (.ireturn, 1) := by decide +kernel
theorem dX13_tells_0 : decode cX13_tells 0 = .ok (.aload_n 0, 1) := by decide +kernel
theorem dX13_tells_1 : decode cX13_tells 1 = .ok (.getfield 201, 3) := by decide +kernel
theorem dX13_tells_4 : decode cX13_tells 4 = .ok (.iconst 1, 1) := by decide +kernel
theorem dX13_tells_5 : decode cX13_tells 5 = .ok (.aload_n 0, 1) := by decide +kernel
theorem dX13_tells_6 : decode cX13_tells 6 = .ok (.getfield 57, 3) := by decide +kernel
theorem dX13_tells_9 : decode cX13_tells 9 = .ok (.bipush 6, 2) := by decide +kernel
theorem dX13_tells_11 : decode cX13_tells 11 = .ok (.aload_n 0, 1) := by decide +kernel
theorem dX13_tells_12 : decode cX13_tells 12 = .ok (.getfield 51, 3) := by decide +kernel
theorem dX13_tells_15 : decode cX13_tells 15 = .ok (.imul, 1) := by decide +kernel
theorem dX13_tells_16 : decode cX13_tells 16 = .ok (.iload_n 1, 1) := by decide +kernel
theorem dX13_tells_17 : decode cX13_tells 17 = .ok (.iadd, 1) := by decide +kernel
theorem dX13_tells_18 : decode cX13_tells 18 = .ok (.iaload, 1) := by decide +kernel
theorem dX13_tells_19 : decode cX13_tells 19 = .ok (.iastore, 1) := by decide +kernel
theorem dX13_tells_20 : decode cX13_tells 20 = .ok (.aload_n 0, 1) := by decide +kernel
theorem dX13_tells_21 : decode cX13_tells 21 = .ok (.getfield 201, 3) := by decide +kernel
theorem dX13_tells_24 : decode cX13_tells 24 = .ok (.iconst 2, 1) := by decide +kernel
theorem dX13_tells_25 : decode cX13_tells 25 = .ok (.aload_n 0, 1) := by decide +kernel
theorem dX13_tells_26 : decode cX13_tells 26 = .ok (.getfield 60, 3) := by decide +kernel
theorem dX13_tells_29 : decode cX13_tells 29 = .ok (.bipush 6, 2) := by decide +kernel
theorem dX13_tells_31 : decode cX13_tells 31 = .ok (.aload_n 0, 1) := by decide +kernel
theorem dX13_tells_32 : decode cX13_tells 32 = .ok (.getfield 51, 3) := by decide +kernel
theorem dX13_tells_35 : decode cX13_tells 35 = .ok (.imul, 1) := by decide +kernel
theorem dX13_tells_36 : decode cX13_tells 36 = .ok (.iload_n 1, 1) := by decide +kernel
theorem dX13_tells_37 : decode cX13_tells 37 = .ok (.iadd, 1) := by decide +kernel
theorem dX13_tells_38 : decode cX13_tells 38 = .ok (.iaload, 1) := by decide +kernel
theorem dX13_tells_39 : decode cX13_tells 39 = .ok (.iastore, 1) := by decide +kernel
theorem dX13_tells_40 : decode cX13_tells 40 = .ok (.aload_n 0, 1) := by decide +kernel
theorem dX13_tells_41 : decode cX13_tells 41 = .ok (.getfield 201, 3) := by decide +kernel
theorem dX13_tells_44 : decode cX13_tells 44 = .ok (.iconst 3, 1) := by decide +kernel
theorem dX13_tells_45 : decode cX13_tells 45 = .ok (.iload_n 2, 1) := by decide +kernel
theorem dX13_tells_46 : decode cX13_tells 46 = .ok (.iastore, 1) := by decide +kernel
theorem dX13_tells_47 : decode cX13_tells 47 = .ok (.aload_n 0, 1) := by decide +kernel
theorem dX13_tells_48 : decode cX13_tells 48 = .ok (.getfield 201, 3) := by decide +kernel
theorem dX13_tells_51 : decode cX13_tells 51 = .ok (.iconst 4, 1) := by decide +kernel
theorem dX13_tells_52 : decode cX13_tells 52 = .ok (.iload_n 3, 1) := by decide +kernel
theorem dX13_tells_53 : decode cX13_tells 53 = .ok (.iastore, 1) := by decide +kernel
theorem dX13_tells_54 : decode cX13_tells 54 = .ok (.aload_n 0, 1) := by decide +kernel
theorem dX13_tells_55 : decode cX13_tells 55 = .ok (.getfield 201, 3) := by decide +kernel
theorem dX13_tells_58 : decode cX13_tells 58 = .ok (.iconst 5, 1) := by decide +kernel
theorem dX13_tells_59 : decode cX13_tells 59 = .ok (.iload 4, 2) := by decide +kernel
theorem dX13_tells_61 : decode cX13_tells 61 = .ok (.iastore, 1) := by decide +kernel
theorem dX13_tells_62 : decode cX13_tells 62 = .ok (.return_, 1) := by decide +kernel
theorem dX13_raised_0 : decode cX13_raised 0 = .ok (.aload_n 0, 1) := by decide +kernel
theorem dX13_raised_1 : decode cX13_raised 1 = .ok (.iload_n 1, 1) := by decide +kernel
theorem dX13_raised_2 : decode cX13_raised 2 = .ok (.iload_n 2, 1) := by decide +kernel
theorem dX13_raised_3 : decode cX13_raised 3 = .ok (.iload_n 3, 1) := by decide +kernel
theorem dX13_raised_4 : decode cX13_raised 4 = .ok (.iload 4, 2) := by decide +kernel
theorem dX13_raised_6 : decode cX13_raised 6 = .ok (.invokevirtual 480, 3) := by decide +kernel
theorem dX13_raised_9 : decode cX13_raised 9 = .ok (.aload_n 0, 1) := by decide +kernel
theorem dX13_raised_10 : decode cX13_raised 10 = .ok (.iconst 0, 1) := by decide +kernel
theorem dX13_raised_11 : decode cX13_raised 11 = .ok (.invokevirtual 484, 3) := by decide +kernel
theorem dX13_raised_14 : decode cX13_raised 14 = .ok (.ifCond .eq 11, 3) := by decide +kernel
theorem dX13_raised_17 : decode cX13_raised 17 = .ok (.aload_n 0, 1) := by decide +kernel
theorem dX13_raised_18 : decode cX13_raised 18 = .ok (.iconst 0, 1) := by decide +kernel
theorem dX13_raised_19 : decode cX13_raised 19 = .ok (.invokevirtual 487, 3) := by decide +kernel
theorem dX13_raised_22 : decode cX13_raised 22 = .ok (.goto 10, 3) := by decide +kernel
theorem dX13_raised_25 : decode cX13_raised 25 = .ok (.aload_n 0, 1) := by decide +kernel
theorem dX13_raised_26 : decode cX13_raised 26 = .ok (.getfield 201, 3) := by decide +kernel
theorem dX13_raised_29 : decode cX13_raised 29 = .ok (.iconst 1, 1) := by decide +kernel
theorem dX13_raised_30 : decode cX13_raised 30 = .ok (.iaload, 1) := by decide +kernel
theorem dX13_raised_31 : decode cX13_raised 31 = .ok (.i2l, 1) := by decide +kernel
theorem dX13_raised_32 : decode cX13_raised 32 = .ok (.lstore 5, 2) := by decide +kernel
theorem dX13_raised_34 : decode cX13_raised 34 = .ok (.lload 5, 2) := by decide +kernel
theorem dX13_raised_36 : decode cX13_raised 36 = .ok (.lconst 0, 1) := by decide +kernel
theorem dX13_raised_37 : decode cX13_raised 37 = .ok (.lcmp, 1) := by decide +kernel
theorem dX13_raised_38 : decode cX13_raised 38 = .ok (.ifCond .ge 7, 3) := by decide +kernel
theorem dX13_raised_41 : decode cX13_raised 41 = .ok (.lconst 0, 1) := by decide +kernel
theorem dX13_raised_42 : decode cX13_raised 42 = .ok (.goto 20, 3) := by decide +kernel
theorem dX13_raised_45 : decode cX13_raised 45 = .ok (.lload 5, 2) := by decide +kernel
theorem dX13_raised_47 : decode cX13_raised 47 = .ok (.ldc2_w 491, 3) := by decide +kernel
theorem dX13_raised_50 : decode cX13_raised 50 = .ok (.lcmp, 1) := by decide +kernel
theorem dX13_raised_51 : decode cX13_raised 51 = .ok (.ifCond .le 9, 3) := by decide +kernel
theorem dX13_raised_54 : decode cX13_raised 54 = .ok (.ldc2_w 491, 3) := by decide +kernel
theorem dX13_raised_57 : decode cX13_raised 57 = .ok (.goto 5, 3) := by decide +kernel
theorem dX13_raised_60 : decode cX13_raised 60 = .ok (.lload 5, 2) := by decide +kernel
theorem dX13_raised_62 : decode cX13_raised 62 = .ok (.lstore 5, 2) := by decide +kernel
theorem dX13_raised_64 : decode cX13_raised 64 = .ok (.iload_n 3, 1) := by decide +kernel
theorem dX13_raised_65 : decode cX13_raised 65 = .ok (.i2l, 1) := by decide +kernel
theorem dX13_raised_66 : decode cX13_raised 66 = .ok (.lload 5, 2) := by decide +kernel
theorem dX13_raised_68 : decode cX13_raised 68 = .ok (.ladd, 1) := by decide +kernel
theorem dX13_raised_69 : decode cX13_raised 69 = .ok (.ldc2_w 493, 3) := by decide +kernel
theorem dX13_raised_72 : decode cX13_raised 72 = .ok (.lcmp, 1) := by decide +kernel
theorem dX13_raised_73 : decode cX13_raised 73 = .ok (.ifCond .le 9, 3) := by decide +kernel
theorem dX13_raised_76 : decode cX13_raised 76 = .ok (.sipush 999, 3) := by decide +kernel
theorem dX13_raised_79 : decode cX13_raised 79 = .ok (.goto 8, 3) := by decide +kernel
theorem dX13_raised_82 : decode cX13_raised 82 = .ok (.iload_n 3, 1) := by decide +kernel
theorem dX13_raised_83 : decode cX13_raised 83 = .ok (.lload 5, 2) := by decide +kernel
theorem dX13_raised_85 : decode cX13_raised 85 = .ok (.l2i, 1) := by decide +kernel
theorem dX13_raised_86 : decode cX13_raised 86 = .ok (.iadd, 1) := by decide +kernel
theorem dX13_raised_87 : decode cX13_raised 87 = .ok (.ireturn, 1) := by decide +kernel
theorem dX13_born_0 : decode cX13_born 0 = .ok (.aload_n 0, 1) := by decide +kernel
theorem dX13_born_1 : decode cX13_born 1 = .ok (.getfield 69, 3) := by decide +kernel
theorem dX13_born_4 : decode cX13_born 4 = .ok (.bipush 8, 2) := by decide +kernel
theorem dX13_born_6 : decode cX13_born 6 = .ok (.aload_n 0, 1) := by decide +kernel
theorem dX13_born_7 : decode cX13_born 7 = .ok (.getfield 51, 3) := by decide +kernel
theorem dX13_born_10 : decode cX13_born 10 = .ok (.imul, 1) := by decide +kernel
theorem dX13_born_11 : decode cX13_born 11 = .ok (.iload_n 1, 1) := by decide +kernel
theorem dX13_born_12 : decode cX13_born 12 = .ok (.iadd, 1) := by decide +kernel
theorem dX13_born_13 : decode cX13_born 13 = .ok (.iaload, 1) := by decide +kernel
theorem dX13_born_14 : decode cX13_born 14 = .ok (.ireturn, 1) := by decide +kernel
theorem dX13_twin_0 : decode cX13_twin 0 = .ok (.aload_n 0, 1) := by decide +kernel
theorem dX13_twin_1 : decode cX13_twin 1 = .ok (.getfield 72, 3) := by decide +kernel
theorem dX13_twin_4 : decode cX13_twin 4 = .ok (.bipush 8, 2) := by decide +kernel
theorem dX13_twin_6 : decode cX13_twin 6 = .ok (.aload_n 0, 1) := by decide +kernel
theorem dX13_twin_7 : decode cX13_twin 7 = .ok (.getfield 51, 3) := by decide +kernel
theorem dX13_twin_10 : decode cX13_twin 10 = .ok (.imul, 1) := by decide +kernel
theorem dX13_twin_11 : decode cX13_twin 11 = .ok (.iload_n 1, 1) := by decide +kernel
theorem dX13_twin_12 : decode cX13_twin 12 = .ok (.iadd, 1) := by decide +kernel
theorem dX13_twin_13 : decode cX13_twin 13 = .ok (.iaload, 1) := by decide +kernel
theorem dX13_twin_14 : decode cX13_twin 14 = .ok (.ireturn, 1) := by decide +kernel
theorem dX13_age_0 : decode cX13_age 0 = .ok (.aload_n 0, 1) := by decide +kernel
theorem dX13_age_1 : decode cX13_age 1 = .ok (.getfield 162, 3) := by decide +kernel
theorem dX13_age_4 : decode cX13_age 4 = .ok (.iload_n 1, 1) := by decide +kernel
theorem dX13_age_5 : decode cX13_age 5 = .ok (.iaload, 1) := by decide +kernel
theorem dX13_age_6 : decode cX13_age 6 = .ok (.aload_n 0, 1) := by decide +kernel
theorem dX13_age_7 : decode cX13_age 7 = .ok (.iload_n 2, 1) := by decide +kernel
theorem dX13_age_8 : decode cX13_age 8 = .ok (.invokevirtual 495, 3) := by decide +kernel
theorem dX13_age_11 : decode cX13_age 11 = .ok (.isub, 1) := by decide +kernel
theorem dX13_age_12 : decode cX13_age 12 = .ok (.ireturn, 1) := by decide +kernel
theorem dX13_isRaised_0 : decode cX13_isRaised 0 = .ok (.aload_n 0, 1) := by decide +kernel
theorem dX13_isRaised_1 : decode cX13_isRaised 1 = .ok (.iload_n 1, 1) := by decide +kernel
theorem dX13_isRaised_2 : decode cX13_isRaised 2 = .ok (.iload_n 2, 1) := by decide +kernel
theorem dX13_isRaised_3 : decode cX13_isRaised 3 = .ok (.invokevirtual 498, 3) := by decide +kernel
theorem dX13_isRaised_6 : decode cX13_isRaised 6 = .ok (.aload_n 0, 1) := by decide +kernel
theorem dX13_isRaised_7 : decode cX13_isRaised 7 = .ok (.iconst 0, 1) := by decide +kernel
theorem dX13_isRaised_8 : decode cX13_isRaised 8 = .ok (.invokevirtual 501, 3) := by decide +kernel
theorem dX13_isRaised_11 : decode cX13_isRaised 11 = .ok (.aload_n 0, 1) := by decide +kernel
theorem dX13_isRaised_12 : decode cX13_isRaised 12 = .ok (.iconst 1, 1) := by decide +kernel
theorem dX13_isRaised_13 : decode cX13_isRaised 13 = .ok (.invokevirtual 501, 3) := by decide +kernel
theorem dX13_isRaised_16 : decode cX13_isRaised 16 = .ok (.iconst 1, 1) := by decide +kernel
theorem dX13_isRaised_17 : decode cX13_isRaised 17 = .ok (.isub, 1) := by decide +kernel
theorem dX13_isRaised_18 : decode cX13_isRaised 18 = .ok (.invokestatic 347, 3) := by decide +kernel
theorem dX13_isRaised_21 : decode cX13_isRaised 21 = .ok (.ireturn, 1) := by decide +kernel
theorem dX13_isDone_0 : decode cX13_isDone 0 = .ok (.aload_n 0, 1) := by decide +kernel
theorem dX13_isDone_1 : decode cX13_isDone 1 = .ok (.iload_n 1, 1) := by decide +kernel
theorem dX13_isDone_2 : decode cX13_isDone 2 = .ok (.iload_n 2, 1) := by decide +kernel
theorem dX13_isDone_3 : decode cX13_isDone 3 = .ok (.invokevirtual 498, 3) := by decide +kernel
theorem dX13_isDone_6 : decode cX13_isDone 6 = .ok (.aload_n 0, 1) := by decide +kernel
theorem dX13_isDone_7 : decode cX13_isDone 7 = .ok (.iconst 1, 1) := by decide +kernel
theorem dX13_isDone_8 : decode cX13_isDone 8 = .ok (.invokevirtual 501, 3) := by decide +kernel
theorem dX13_isDone_11 : decode cX13_isDone 11 = .ok (.if_icmp .lt 7, 3) := by decide +kernel
theorem dX13_isDone_14 : decode cX13_isDone 14 = .ok (.iconst 1, 1) := by decide +kernel
theorem dX13_isDone_15 : decode cX13_isDone 15 = .ok (.goto 4, 3) := by decide +kernel
theorem dX13_isDone_18 : decode cX13_isDone 18 = .ok (.iconst 0, 1) := by decide +kernel
theorem dX13_isDone_19 : decode cX13_isDone 19 = .ok (.ireturn, 1) := by decide +kernel
theorem dX13_inWall_0 : decode cX13_inWall 0 = .ok (.aload_n 0, 1) := by decide +kernel
theorem dX13_inWall_1 : decode cX13_inWall 1 = .ok (.getfield 174, 3) := by decide +kernel
theorem dX13_inWall_4 : decode cX13_inWall 4 = .ok (.bipush 8, 2) := by decide +kernel
theorem dX13_inWall_6 : decode cX13_inWall 6 = .ok (.iload_n 1, 1) := by decide +kernel
theorem dX13_inWall_7 : decode cX13_inWall 7 = .ok (.imul, 1) := by decide +kernel
theorem dX13_inWall_8 : decode cX13_inWall 8 = .ok (.iload_n 2, 1) := by decide +kernel
theorem dX13_inWall_9 : decode cX13_inWall 9 = .ok (.iadd, 1) := by decide +kernel
theorem dX13_inWall_10 : decode cX13_inWall 10 = .ok (.iaload, 1) := by decide +kernel
theorem dX13_inWall_11 : decode cX13_inWall 11 = .ok (.ireturn, 1) := by decide +kernel
theorem dX13_column_0 : decode cX13_column 0 = .ok (.aload_n 0, 1) := by decide +kernel
theorem dX13_column_1 : decode cX13_column 1 = .ok (.getfield 177, 3) := by decide +kernel
theorem dX13_column_4 : decode cX13_column 4 = .ok (.bipush 8, 2) := by decide +kernel
theorem dX13_column_6 : decode cX13_column 6 = .ok (.iload_n 1, 1) := by decide +kernel
theorem dX13_column_7 : decode cX13_column 7 = .ok (.imul, 1) := by decide +kernel
theorem dX13_column_8 : decode cX13_column 8 = .ok (.iload_n 2, 1) := by decide +kernel
theorem dX13_column_9 : decode cX13_column 9 = .ok (.iadd, 1) := by decide +kernel
theorem dX13_column_10 : decode cX13_column 10 = .ok (.iaload, 1) := by decide +kernel
theorem dX13_column_11 : decode cX13_column 11 = .ok (.ireturn, 1) := by decide +kernel
theorem dX13_course_0 : decode cX13_course 0 = .ok (.aload_n 0, 1) := by decide +kernel
theorem dX13_course_1 : decode cX13_course 1 = .ok (.getfield 180, 3) := by decide +kernel
theorem dX13_course_4 : decode cX13_course 4 = .ok (.bipush 8, 2) := by decide +kernel
theorem dX13_course_6 : decode cX13_course 6 = .ok (.iload_n 1, 1) := by decide +kernel
theorem dX13_course_7 : decode cX13_course 7 = .ok (.imul, 1) := by decide +kernel
theorem dX13_course_8 : decode cX13_course 8 = .ok (.iload_n 2, 1) := by decide +kernel
theorem dX13_course_9 : decode cX13_course 9 = .ok (.iadd, 1) := by decide +kernel
theorem dX13_course_10 : decode cX13_course 10 = .ok (.iaload, 1) := by decide +kernel
theorem dX13_course_11 : decode cX13_course 11 = .ok (.ireturn, 1) := by decide +kernel
theorem dX13_strong_0 : decode cX13_strong 0 = .ok (.aload_n 0, 1) := by decide +kernel
theorem dX13_strong_1 : decode cX13_strong 1 = .ok (.getfield 171, 3) := by decide +kernel
theorem dX13_strong_4 : decode cX13_strong 4 = .ok (.bipush 8, 2) := by decide +kernel
theorem dX13_strong_6 : decode cX13_strong 6 = .ok (.iload_n 1, 1) := by decide +kernel
theorem dX13_strong_7 : decode cX13_strong 7 = .ok (.imul, 1) := by decide +kernel
theorem dX13_strong_8 : decode cX13_strong 8 = .ok (.iload_n 2, 1) := by decide +kernel
theorem dX13_strong_9 : decode cX13_strong 9 = .ok (.iadd, 1) := by decide +kernel
theorem dX13_strong_10 : decode cX13_strong 10 = .ok (.iaload, 1) := by decide +kernel
theorem dX13_strong_11 : decode cX13_strong 11 = .ok (.ireturn, 1) := by decide +kernel
theorem dX13_isOnShelf_0 : decode cX13_isOnShelf 0 = .ok (.aload_n 0, 1) := by decide +kernel
theorem dX13_isOnShelf_1 : decode cX13_isOnShelf 1 = .ok (.iload_n 1, 1) := by decide +kernel
theorem dX13_isOnShelf_2 : decode cX13_isOnShelf 2 = .ok (.iload_n 2, 1) := by decide +kernel
theorem dX13_isOnShelf_3 : decode cX13_isOnShelf 3 = .ok (.invokevirtual 504, 3) := by decide +kernel
theorem dX13_isOnShelf_6 : decode cX13_isOnShelf 6 = .ok (.ifCond .eq 17, 3) := by decide +kernel
theorem dX13_isOnShelf_9 : decode cX13_isOnShelf 9 = .ok (.aload_n 0, 1) := by decide +kernel
theorem dX13_isOnShelf_10 : decode cX13_isOnShelf 10 = .ok (.iload_n 1, 1) := by decide +kernel
theorem dX13_isOnShelf_11 : decode cX13_isOnShelf 11 = .ok (.iload_n 2, 1) := by decide +kernel
theorem dX13_isOnShelf_12 : decode cX13_isOnShelf 12 = .ok (.invokevirtual 507, 3) := by decide +kernel
theorem dX13_isOnShelf_15 : decode cX13_isOnShelf 15 = .ok (.iconst (-1), 1) := by decide +kernel
theorem dX13_isOnShelf_16 : decode cX13_isOnShelf 16 = .ok (.if_icmp .ne 7, 3) := by decide +kernel
theorem dX13_isOnShelf_19 : decode cX13_isOnShelf 19 = .ok (.iconst 1, 1) := by decide +kernel
theorem dX13_isOnShelf_20 : decode cX13_isOnShelf 20 = .ok (.goto 4, 3) := by decide +kernel
theorem dX13_isOnShelf_23 : decode cX13_isOnShelf 23 = .ok (.iconst 0, 1) := by decide +kernel
theorem dX13_isOnShelf_24 : decode cX13_isOnShelf 24 = .ok (.ireturn, 1) := by decide +kernel
theorem dX13_lies_0 : decode cX13_lies 0 = .ok (.iconst 0, 1) := by decide +kernel
theorem dX13_lies_1 : decode cX13_lies 1 = .ok (.istore 5, 2) := by decide +kernel
theorem dX13_lies_3 : decode cX13_lies 3 = .ok (.iload 5, 2) := by decide +kernel
theorem dX13_lies_5 : decode cX13_lies 5 = .ok (.aload_n 0, 1) := by decide +kernel
theorem dX13_lies_6 : decode cX13_lies 6 = .ok (.getfield 63, 3) := by decide +kernel
theorem dX13_lies_9 : decode cX13_lies 9 = .ok (.aload_n 0, 1) := by decide +kernel
theorem dX13_lies_10 : decode cX13_lies 10 = .ok (.getfield 51, 3) := by decide +kernel
theorem dX13_lies_13 : decode cX13_lies 13 = .ok (.iaload, 1) := by decide +kernel
theorem dX13_lies_14 : decode cX13_lies 14 = .ok (.if_icmp .ge 46, 3) := by decide +kernel
theorem dX13_lies_17 : decode cX13_lies 17 = .ok (.aload_n 0, 1) := by decide +kernel
theorem dX13_lies_18 : decode cX13_lies 18 = .ok (.iload_n 1, 1) := by decide +kernel
theorem dX13_lies_19 : decode cX13_lies 19 = .ok (.iload 5, 2) := by decide +kernel
theorem dX13_lies_21 : decode cX13_lies 21 = .ok (.invokevirtual 507, 3) := by decide +kernel
