theorem dX12_feed_0 : decode cX12_feed 0 = .ok (.aload_n 0, 1) := by decide +kernel
theorem dX12_feed_1 : decode cX12_feed 1 = .ok (.getfield 10, 3) := by decide +kernel
theorem dX12_feed_4 : decode cX12_feed 4 = .ok (.getfield 86, 3) := by decide +kernel
theorem dX12_feed_7 : decode cX12_feed 7 = .ok (.bipush 20, 2) := by decide +kernel
theorem dX12_feed_9 : decode cX12_feed 9 = .ok (.iadd, 1) := by decide +kernel
theorem dX12_feed_10 : decode cX12_feed 10 = .ok (.sipush 1600, 3) := by decide +kernel
theorem dX12_feed_13 : decode cX12_feed 13 = .ok (.if_icmp .le 9, 3) := by decide +kernel
theorem dX12_feed_16 : decode cX12_feed 16 = .ok (.aload_n 0, 1) := by decide +kernel
theorem dX12_feed_17 : decode cX12_feed 17 = .ok (.iconst 0, 1) := by decide +kernel
theorem dX12_feed_18 : decode cX12_feed 18 = .ok (.invokevirtual 89, 3) := by decide +kernel
theorem dX12_feed_21 : decode cX12_feed 21 = .ok (.ireturn, 1) := by decide +kernel
theorem dX12_feed_22 : decode cX12_feed 22 = .ok (.aload_n 0, 1) := by decide +kernel
theorem dX12_feed_23 : decode cX12_feed 23 = .ok (.getfield 10, 3) := by decide +kernel
theorem dX12_feed_26 : decode cX12_feed 26 = .ok (.iload_n 1, 1) := by decide +kernel
theorem dX12_feed_27 : decode cX12_feed 27 = .ok (.invokevirtual 93, 3) := by decide +kernel
theorem dX12_feed_30 : decode cX12_feed 30 = .ok (.aload_n 0, 1) := by decide +kernel
theorem dX12_feed_31 : decode cX12_feed 31 = .ok (.getfield 10, 3) := by decide +kernel
theorem dX12_feed_34 : decode cX12_feed 34 = .ok (.iload_n 2, 1) := by decide +kernel
theorem dX12_feed_35 : decode cX12_feed 35 = .ok (.invokevirtual 93, 3) := by decide +kernel
theorem dX12_feed_38 : decode cX12_feed 38 = .ok (.aload_n 0, 1) := by decide +kernel
theorem dX12_feed_39 : decode cX12_feed 39 = .ok (.getfield 10, 3) := by decide +kernel
theorem dX12_feed_42 : decode cX12_feed 42 = .ok (.iload_n 3, 1) := by decide +kernel
theorem dX12_feed_43 : decode cX12_feed 43 = .ok (.invokevirtual 93, 3) := by decide +kernel
theorem dX12_feed_46 : decode cX12_feed 46 = .ok (.aload_n 0, 1) := by decide +kernel
theorem dX12_feed_47 : decode cX12_feed 47 = .ok (.getfield 10, 3) := by decide +kernel
theorem dX12_feed_50 : decode cX12_feed 50 = .ok (.iload 4, 2) := by decide +kernel
theorem dX12_feed_52 : decode cX12_feed 52 = .ok (.invokevirtual 93, 3) := by decide +kernel
theorem dX12_feed_55 : decode cX12_feed 55 = .ok (.aload_n 0, 1) := by decide +kernel
theorem dX12_feed_56 : decode cX12_feed 56 = .ok (.getfield 10, 3) := by decide +kernel
theorem dX12_feed_59 : decode cX12_feed 59 = .ok (.iload 5, 2) := by decide +kernel
theorem dX12_feed_61 : decode cX12_feed 61 = .ok (.invokevirtual 93, 3) := by decide +kernel
theorem dX12_feed_64 : decode cX12_feed 64 = .ok (.aload_n 0, 1) := by decide +kernel
theorem dX12_feed_65 : decode cX12_feed 65 = .ok (.getfield 10, 3) := by decide +kernel
theorem dX12_feed_68 : decode cX12_feed 68 = .ok (.getfield 86, 3) := by decide +kernel
theorem dX12_feed_71 : decode cX12_feed 71 = .ok (.ireturn, 1) := by decide +kernel
theorem dX12_end_0 : decode cX12_end 0 = .ok (.iload_n 1, 1) := by decide +kernel
theorem dX12_end_1 : decode cX12_end 1 = .ok (.ifCond .lt 14, 3) := by decide +kernel
theorem dX12_end_4 : decode cX12_end 4 = .ok (.iload_n 1, 1) := by decide +kernel
theorem dX12_end_5 : decode cX12_end 5 = .ok (.aload_n 0, 1) := by decide +kernel
theorem dX12_end_6 : decode cX12_end 6 = .ok (.getfield 10, 3) := by decide +kernel
theorem dX12_end_9 : decode cX12_end 9 = .ok (.getfield 86, 3) := by decide +kernel
theorem dX12_end_12 : decode cX12_end 12 = .ok (.if_icmp .le 11, 3) := by decide +kernel
theorem dX12_end_15 : decode cX12_end 15 = .ok (.aload_n 0, 1) := by decide +kernel
theorem dX12_end_16 : decode cX12_end 16 = .ok (.iconst 0, 1) := by decide +kernel
theorem dX12_end_17 : decode cX12_end 17 = .ok (.invokevirtual 89, 3) := by decide +kernel
theorem dX12_end_20 : decode cX12_end 20 = .ok (.pop, 1) := by decide +kernel
theorem dX12_end_21 : decode cX12_end 21 = .ok (.iconst 0, 1) := by decide +kernel
theorem dX12_end_22 : decode cX12_end 22 = .ok (.ireturn, 1) := by decide +kernel
theorem dX12_end_23 : decode cX12_end 23 = .ok (.aload_n 0, 1) := by decide +kernel
theorem dX12_end_24 : decode cX12_end 24 = .ok (.getfield 10, 3) := by decide +kernel
theorem dX12_end_27 : decode cX12_end 27 = .ok (.iload_n 1, 1) := by decide +kernel
theorem dX12_end_28 : decode cX12_end 28 = .ok (.putfield 86, 3) := by decide +kernel
theorem dX12_end_31 : decode cX12_end 31 = .ok (.iconst 1, 1) := by decide +kernel
theorem dX12_end_32 : decode cX12_end 32 = .ok (.ireturn, 1) := by decide +kernel
theorem dX12_town_0 : decode cX12_town 0 = .ok (.iconst 0, 1) := by decide +kernel
theorem dX12_town_1 : decode cX12_town 1 = .ok (.istore_n 1, 1) := by decide +kernel
theorem dX12_town_2 : decode cX12_town 2 = .ok (.aload_n 0, 1) := by decide +kernel
theorem dX12_town_3 : decode cX12_town 3 = .ok (.getfield 31, 3) := by decide +kernel
theorem dX12_town_6 : decode cX12_town 6 = .ok (.aload_n 0, 1) := by decide +kernel
theorem dX12_town_7 : decode cX12_town 7 = .ok (.getfield 23, 3) := by decide +kernel
theorem dX12_town_10 : decode cX12_town 10 = .ok (.invokevirtual 97, 3) := by decide +kernel
theorem dX12_town_13 : decode cX12_town 13 = .ok (.iconst 0, 1) := by decide +kernel
theorem dX12_town_14 : decode cX12_town 14 = .ok (.istore_n 2, 1) := by decide +kernel
theorem dX12_town_15 : decode cX12_town 15 = .ok (.iload_n 2, 1) := by decide +kernel
theorem dX12_town_16 : decode cX12_town 16 = .ok (.bipush 80, 2) := by decide +kernel
theorem dX12_town_18 : decode cX12_town 18 = .ok (.if_icmp .gt 31, 3) := by decide +kernel
theorem dX12_town_21 : decode cX12_town 21 = .ok (.aload_n 0, 1) := by decide +kernel
theorem dX12_town_22 : decode cX12_town 22 = .ok (.getfield 31, 3) := by decide +kernel
theorem dX12_town_25 : decode cX12_town 25 = .ok (.invokevirtual 100, 3) := by decide +kernel
theorem dX12_town_28 : decode cX12_town 28 = .ok (.ifCond .eq 21, 3) := by decide +kernel
theorem dX12_town_31 : decode cX12_town 31 = .ok (.aload_n 0, 1) := by decide +kernel
theorem dX12_town_32 : decode cX12_town 32 = .ok (.getfield 31, 3) := by decide +kernel
theorem dX12_town_35 : decode cX12_town 35 = .ok (.iload_n 2, 1) := by decide +kernel
theorem dX12_town_36 : decode cX12_town 36 = .ok (.invokevirtual 104, 3) := by decide +kernel
theorem dX12_town_39 : decode cX12_town 39 = .ok (.iload_n 2, 1) := by decide +kernel
theorem dX12_town_40 : decode cX12_town 40 = .ok (.iconst 1, 1) := by decide +kernel
theorem dX12_town_41 : decode cX12_town 41 = .ok (.iadd, 1) := by decide +kernel
theorem dX12_town_42 : decode cX12_town 42 = .ok (.istore_n 1, 1) := by decide +kernel
theorem dX12_town_43 : decode cX12_town 43 = .ok (.iinc 2 1, 3) := by decide +kernel
theorem dX12_town_46 : decode cX12_town 46 = .ok (.goto (-31), 3) := by decide +kernel
theorem dX12_town_49 : decode cX12_town 49 = .ok (.aload_n 0, 1) := by decide +kernel
theorem dX12_town_50 : decode cX12_town 50 = .ok (.getfield 10, 3) := by decide +kernel
theorem dX12_town_53 : decode cX12_town 53 = .ok (.iconst 0, 1) := by decide +kernel
theorem dX12_town_54 : decode cX12_town 54 = .ok (.putfield 86, 3) := by decide +kernel
theorem dX12_town_57 : decode cX12_town 57 = .ok (.aload_n 0, 1) := by decide +kernel
theorem dX12_town_58 : decode cX12_town 58 = .ok (.aload_n 0, 1) := by decide +kernel
theorem dX12_town_59 : decode cX12_town 59 = .ok (.getfield 31, 3) := by decide +kernel
theorem dX12_town_62 : decode cX12_town 62 = .ok (.getfield 107, 3) := by decide +kernel
theorem dX12_town_65 : decode cX12_town 65 = .ok (.getfield 111, 3) := by decide +kernel
theorem dX12_town_68 : decode cX12_town 68 = .ok (.putfield 76, 3) := by decide +kernel
theorem dX12_town_71 : decode cX12_town 71 = .ok (.aload_n 0, 1) := by decide +kernel
theorem dX12_town_72 : decode cX12_town 72 = .ok (.aload_n 0, 1) := by decide +kernel
theorem dX12_town_73 : decode cX12_town 73 = .ok (.getfield 31, 3) := by decide +kernel
theorem dX12_town_76 : decode cX12_town 76 = .ok (.getfield 107, 3) := by decide +kernel
theorem dX12_town_79 : decode cX12_town 79 = .ok (.getfield 116, 3) := by decide +kernel
theorem dX12_town_82 : decode cX12_town 82 = .ok (.putfield 80, 3) := by decide +kernel
theorem dX12_town_85 : decode cX12_town 85 = .ok (.aload_n 0, 1) := by decide +kernel
theorem dX12_town_86 : decode cX12_town 86 = .ok (.getfield 76, 3) := by decide +kernel
theorem dX12_town_89 : decode cX12_town 89 = .ok (.ifCond .eq 9, 3) := by decide +kernel
theorem dX12_town_92 : decode cX12_town 92 = .ok (.aload_n 0, 1) := by decide +kernel
theorem dX12_town_93 : decode cX12_town 93 = .ok (.iconst 1, 1) := by decide +kernel
theorem dX12_town_94 : decode cX12_town 94 = .ok (.invokevirtual 89, 3) := by decide +kernel
theorem dX12_town_97 : decode cX12_town 97 = .ok (.ireturn, 1) := by decide +kernel
theorem dX12_town_98 : decode cX12_town 98 = .ok (.aload_n 0, 1) := by decide +kernel
theorem dX12_town_99 : decode cX12_town 99 = .ok (.invokevirtual 119, 3) := by decide +kernel
theorem dX12_town_102 : decode cX12_town 102 = .ok (.iload_n 1, 1) := by decide +kernel
theorem dX12_town_103 : decode cX12_town 103 = .ok (.ireturn, 1) := by decide +kernel
theorem dX12_settleIn_0 : decode cX12_settleIn 0 = .ok (.aload_n 0, 1) := by decide +kernel
theorem dX12_settleIn_1 : decode cX12_settleIn 1 = .ok (.getfield 19, 3) := by decide +kernel
theorem dX12_settleIn_4 : decode cX12_settleIn 4 = .ok (.astore_n 1, 1) := by decide +kernel
theorem dX12_settleIn_5 : decode cX12_settleIn 5 = .ok (.aload_n 0, 1) := by decide +kernel
theorem dX12_settleIn_6 : decode cX12_settleIn 6 = .ok (.aload_n 0, 1) := by decide +kernel
theorem dX12_settleIn_7 : decode cX12_settleIn 7 = .ok (.getfield 23, 3) := by decide +kernel
theorem dX12_settleIn_10 : decode cX12_settleIn 10 = .ok (.putfield 19, 3) := by decide +kernel
theorem dX12_settleIn_13 : decode cX12_settleIn 13 = .ok (.aload_n 0, 1) := by decide +kernel
theorem dX12_settleIn_14 : decode cX12_settleIn 14 = .ok (.aload_n 1, 1) := by decide +kernel
theorem dX12_settleIn_15 : decode cX12_settleIn 15 = .ok (.putfield 23, 3) := by decide +kernel
theorem dX12_settleIn_18 : decode cX12_settleIn 18 = .ok (.aload_n 0, 1) := by decide +kernel
theorem dX12_settleIn_19 : decode cX12_settleIn 19 = .ok (.getfield 40, 3) := by decide +kernel
theorem dX12_settleIn_22 : decode cX12_settleIn 22 = .ok (.aload_n 0, 1) := by decide +kernel
theorem dX12_settleIn_23 : decode cX12_settleIn 23 = .ok (.getfield 19, 3) := by decide +kernel
theorem dX12_settleIn_26 : decode cX12_settleIn 26 = .ok (.invokevirtual 122, 3) := by decide +kernel
theorem dX12_settleIn_29 : decode cX12_settleIn 29 = .ok (.aload_n 0, 1) := by decide +kernel
theorem dX12_settleIn_30 : decode cX12_settleIn 30 = .ok (.getfield 54, 3) := by decide +kernel
theorem dX12_settleIn_33 : decode cX12_settleIn 33 = .ok (.invokevirtual 123, 3) := by decide +kernel
theorem dX12_settleIn_36 : decode cX12_settleIn 36 = .ok (.aload_n 0, 1) := by decide +kernel
theorem dX12_settleIn_37 : decode cX12_settleIn 37 = .ok (.getfield 61, 3) := by decide +kernel
theorem dX12_settleIn_40 : decode cX12_settleIn 40 = .ok (.aload_n 0, 1) := by decide +kernel
theorem dX12_settleIn_41 : decode cX12_settleIn 41 = .ok (.getfield 19, 3) := by decide +kernel
theorem dX12_settleIn_44 : decode cX12_settleIn 44 = .ok (.invokevirtual 126, 3) := by decide +kernel
theorem dX12_settleIn_47 : decode cX12_settleIn 47 = .ok (.return_, 1) := by decide +kernel
theorem dX12_fault_0 : decode cX12_fault 0 = .ok (.iload_n 1, 1) := by decide +kernel
theorem dX12_fault_1 : decode cX12_fault 1 = .ok (.lookupswitch 37 #[(0, 27), (1, 32)], 27) := by decide +kernel
theorem dX12_fault_28 : decode cX12_fault 28 = .ok (.aload_n 0, 1) := by decide +kernel
theorem dX12_fault_29 : decode cX12_fault 29 = .ok (.getfield 76, 3) := by decide +kernel
theorem dX12_fault_32 : decode cX12_fault 32 = .ok (.ireturn, 1) := by decide +kernel
theorem dX12_fault_33 : decode cX12_fault 33 = .ok (.aload_n 0, 1) := by decide +kernel
theorem dX12_fault_34 : decode cX12_fault 34 = .ok (.getfield 80, 3) := by decide +kernel
theorem dX12_fault_37 : decode cX12_fault 37 = .ok (.ireturn, 1) := by decide +kernel
theorem dX12_fault_38 : decode cX12_fault 38 = .ok (.iconst (-1), 1) := by decide +kernel
theorem dX12_fault_39 : decode cX12_fault 39 = .ok (.ireturn, 1) := by decide +kernel
theorem dX12_has_0 : decode cX12_has 0 = .ok (.iload_n 1, 1) := by decide +kernel
theorem dX12_has_1 : decode cX12_has 1 = .ok (.tableswitch 175 0 11 #[63, 71, 79, 87, 95, 114, 122, 134, 146, 154, 162, 170], 63) := by decide +kernel
theorem dX12_has_64 : decode cX12_has 64 = .ok (.aload_n 0, 1) := by decide +kernel
theorem dX12_has_65 : decode cX12_has 65 = .ok (.getfield 19, 3) := by decide +kernel
theorem dX12_has_68 : decode cX12_has 68 = .ok (.invokevirtual 128, 3) := by decide +kernel
theorem dX12_has_71 : decode cX12_has 71 = .ok (.ireturn, 1) := by decide +kernel
theorem dX12_has_72 : decode cX12_has 72 = .ok (.aload_n 0, 1) := by decide +kernel
theorem dX12_has_73 : decode cX12_has 73 = .ok (.getfield 19, 3) := by decide +kernel
theorem dX12_has_76 : decode cX12_has 76 = .ok (.invokevirtual 132, 3) := by decide +kernel
theorem dX12_has_79 : decode cX12_has 79 = .ok (.ireturn, 1) := by decide +kernel
theorem dX12_has_80 : decode cX12_has 80 = .ok (.aload_n 0, 1) := by decide +kernel
theorem dX12_has_81 : decode cX12_has 81 = .ok (.getfield 19, 3) := by decide +kernel
theorem dX12_has_84 : decode cX12_has 84 = .ok (.invokevirtual 135, 3) := by decide +kernel
theorem dX12_has_87 : decode cX12_has 87 = .ok (.ireturn, 1) := by decide +kernel
theorem dX12_has_88 : decode cX12_has 88 = .ok (.aload_n 0, 1) := by decide +kernel
theorem dX12_has_89 : decode cX12_has 89 = .ok (.getfield 19, 3) := by decide +kernel
theorem dX12_has_92 : decode cX12_has 92 = .ok (.getfield 138, 3) := by decide +kernel
theorem dX12_has_95 : decode cX12_has 95 = .ok (.ireturn, 1) := by decide +kernel
theorem dX12_has_96 : decode cX12_has 96 = .ok (.aload_n 0, 1) := by decide +kernel
theorem dX12_has_97 : decode cX12_has 97 = .ok (.getfield 19, 3) := by decide +kernel
theorem dX12_has_100 : decode cX12_has 100 = .ok (.getfield 138, 3) := by decide +kernel
theorem dX12_has_103 : decode cX12_has 103 = .ok (.aload_n 0, 1) := by decide +kernel
theorem dX12_has_104 : decode cX12_has 104 = .ok (.getfield 40, 3) := by decide +kernel
theorem dX12_has_107 : decode cX12_has 107 = .ok (.getfield 141, 3) := by decide +kernel
theorem dX12_has_110 : decode cX12_has 110 = .ok (.invokestatic 144, 3) := by decide +kernel
theorem dX12_has_113 : decode cX12_has 113 = .ok (.isub, 1) := by decide +kernel
theorem dX12_has_114 : decode cX12_has 114 = .ok (.ireturn, 1) := by decide +kernel
theorem dX12_has_115 : decode cX12_has 115 = .ok (.aload_n 0, 1) := by decide +kernel
theorem dX12_has_116 : decode cX12_has 116 = .ok (.getfield 40, 3) := by decide +kernel
theorem dX12_has_119 : decode cX12_has 119 = .ok (.getfield 149, 3) := by decide +kernel
theorem dX12_has_122 : decode cX12_has 122 = .ok (.ireturn, 1) := by decide +kernel
theorem dX12_has_123 : decode cX12_has 123 = .ok (.aload_n 0, 1) := by decide +kernel
theorem dX12_has_124 : decode cX12_has 124 = .ok (.getfield 40, 3) := by decide +kernel
theorem dX12_has_127 : decode cX12_has 127 = .ok (.iconst 2, 1) := by decide +kernel
theorem dX12_has_128 : decode cX12_has 128 = .ok (.invokevirtual 152, 3) := by decide +kernel
theorem dX12_has_131 : decode cX12_has 131 = .ok (.invokestatic 144, 3) := by decide +kernel
theorem dX12_has_134 : decode cX12_has 134 = .ok (.ireturn, 1) := by decide +kernel
theorem dX12_has_135 : decode cX12_has 135 = .ok (.aload_n 0, 1) := by decide +kernel
theorem dX12_has_136 : decode cX12_has 136 = .ok (.getfield 40, 3) := by decide +kernel
theorem dX12_has_139 : decode cX12_has 139 = .ok (.iconst 3, 1) := by decide +kernel
theorem dX12_has_140 : decode cX12_has 140 = .ok (.invokevirtual 152, 3) := by decide +kernel
theorem dX12_has_143 : decode cX12_has 143 = .ok (.invokestatic 144, 3) := by decide +kernel
theorem dX12_has_146 : decode cX12_has 146 = .ok (.ireturn, 1) := by decide +kernel
theorem dX12_has_147 : decode cX12_has 147 = .ok (.aload_n 0, 1) := by decide +kernel
theorem dX12_has_148 : decode cX12_has 148 = .ok (.getfield 40, 3) := by decide +kernel
theorem dX12_has_151 : decode cX12_has 151 = .ok (.invokevirtual 155, 3) := by decide +kernel
theorem dX12_has_154 : decode cX12_has 154 = .ok (.ireturn, 1) := by decide +kernel
theorem dX12_has_155 : decode cX12_has 155 = .ok (.aload_n 0, 1) := by decide +kernel
theorem dX12_has_156 : decode cX12_has 156 = .ok (.getfield 40, 3) := by decide +kernel
theorem dX12_has_159 : decode cX12_has 159 = .ok (.getfield 158, 3) := by decide +kernel
theorem dX12_has_162 : decode cX12_has 162 = .ok (.ireturn, 1) := by decide +kernel
theorem dX12_has_163 : decode cX12_has 163 = .ok (.aload_n 0, 1) := by decide +kernel
theorem dX12_has_164 : decode cX12_has 164 = .ok (.getfield 54, 3) := by decide +kernel
theorem dX12_has_167 : decode cX12_has 167 = .ok (.getfield 161, 3) := by decide +kernel
theorem dX12_has_170 : decode cX12_has 170 = .ok (.ireturn, 1) := by decide +kernel
theorem dX12_has_171 : decode cX12_has 171 = .ok (.aload_n 0, 1) := by decide +kernel
theorem dX12_has_172 : decode cX12_has 172 = .ok (.getfield 83, 3) := by decide +kernel
theorem dX12_has_175 : decode cX12_has 175 = .ok (.ireturn, 1) := by decide +kernel
theorem dX12_has_176 : decode cX12_has 176 = .ok (.iconst (-1), 1) := by decide +kernel
theorem dX12_has_177 : decode cX12_has 177 = .ok (.ireturn, 1) := by decide +kernel
theorem dX12_letter_0 : decode cX12_letter 0 = .ok (.iload_n 1, 1) := by decide +kernel
theorem dX12_letter_1 : decode cX12_letter 1 = .ok (.ifCond .lt 18, 3) := by decide +kernel
theorem dX12_letter_4 : decode cX12_letter 4 = .ok (.iload_n 1, 1) := by decide +kernel
theorem dX12_letter_5 : decode cX12_letter 5 = .ok (.iconst 2, 1) := by decide +kernel
theorem dX12_letter_6 : decode cX12_letter 6 = .ok (.if_icmp .gt 13, 3) := by decide +kernel
theorem dX12_letter_9 : decode cX12_letter 9 = .ok (.iload_n 3, 1) := by decide +kernel
theorem dX12_letter_10 : decode cX12_letter 10 = .ok (.ifCond .lt 9, 3) := by decide +kernel
theorem dX12_letter_13 : decode cX12_letter 13 = .ok (.iload_n 3, 1) := by decide +kernel
theorem dX12_letter_14 : decode cX12_letter 14 = .ok (.bipush 6, 2) := by decide +kernel
theorem dX12_letter_16 : decode cX12_letter 16 = .ok (.if_icmp .lt 5, 3) := by decide +kernel
theorem dX12_letter_19 : decode cX12_letter 19 = .ok (.iconst (-1), 1) := by decide +kernel
theorem dX12_letter_20 : decode cX12_letter 20 = .ok (.ireturn, 1) := by decide +kernel
theorem dX12_letter_21 : decode cX12_letter 21 = .ok (.iload_n 2, 1) := by decide +kernel
theorem dX12_letter_22 : decode cX12_letter 22 = .ok (.ifCond .lt 16, 3) := by decide +kernel
theorem dX12_letter_25 : decode cX12_letter 25 = .ok (.iload_n 2, 1) := by decide +kernel
theorem dX12_letter_26 : decode cX12_letter 26 = .ok (.aload_n 0, 1) := by decide +kernel
theorem dX12_letter_27 : decode cX12_letter 27 = .ok (.getfield 19, 3) := by decide +kernel
theorem dX12_letter_30 : decode cX12_letter 30 = .ok (.getfield 164, 3) := by decide +kernel
theorem dX12_letter_33 : decode cX12_letter 33 = .ok (.iload_n 1, 1) := by decide +kernel
theorem dX12_letter_34 : decode cX12_letter 34 = .ok (.iaload, 1) := by decide +kernel
theorem dX12_letter_35 : decode cX12_letter 35 = .ok (.if_icmp .lt 5, 3) := by decide +kernel
theorem dX12_letter_38 : decode cX12_letter 38 = .ok (.iconst (-1), 1) := by decide +kernel
theorem dX12_letter_39 : decode cX12_letter 39 = .ok (.ireturn, 1) := by decide +kernel
theorem dX12_letter_40 : decode cX12_letter 40 = .ok (.aload_n 0, 1) := by decide +kernel
theorem dX12_letter_41 : decode cX12_letter 41 = .ok (.getfield 19, 3) := by decide +kernel
theorem dX12_letter_44 : decode cX12_letter 44 = .ok (.getfield 167, 3) := by decide +kernel
theorem dX12_letter_47 : decode cX12_letter 47 = .ok (.iload_n 1, 1) := by decide +kernel
theorem dX12_letter_48 : decode cX12_letter 48 = .ok (.aaload, 1) := by decide +kernel
theorem dX12_letter_49 : decode cX12_letter 49 = .ok (.iload_n 2, 1) := by decide +kernel
theorem dX12_letter_50 : decode cX12_letter 50 = .ok (.iaload, 1) := by decide +kernel
theorem dX12_letter_51 : decode cX12_letter 51 = .ok (.istore 4, 2) := by decide +kernel
theorem dX12_letter_53 : decode cX12_letter 53 = .ok (.iload_n 3, 1) := by decide +kernel
theorem dX12_letter_54 : decode cX12_letter 54 = .ok (.iconst 1, 1) := by decide +kernel
theorem dX12_letter_55 : decode cX12_letter 55 = .ok (.iadd, 1) := by decide +kernel
theorem dX12_letter_56 : decode cX12_letter 56 = .ok (.istore 5, 2) := by decide +kernel
theorem dX12_letter_58 : decode cX12_letter 58 = .ok (.iload 5, 2) := by decide +kernel
theorem dX12_letter_60 : decode cX12_letter 60 = .ok (.bipush 6, 2) := by decide +kernel
theorem dX12_letter_62 : decode cX12_letter 62 = .ok (.if_icmp .ge 16, 3) := by decide +kernel
theorem dX12_letter_65 : decode cX12_letter 65 = .ok (.iload 4, 2) := by decide +kernel
theorem dX12_letter_67 : decode cX12_letter 67 = .ok (.bipush 27, 2) := by decide +kernel
theorem dX12_letter_69 : decode cX12_letter 69 = .ok (.idiv, 1) := by decide +kernel
theorem dX12_letter_70 : decode cX12_letter 70 = .ok (.istore 4, 2) := by decide +kernel
theorem dX12_letter_72 : decode cX12_letter 72 = .ok (.iinc 5 1, 3) := by decide +kernel
theorem dX12_letter_75 : decode cX12_letter 75 = .ok (.goto (-17), 3) := by decide +kernel
theorem dX12_letter_78 : decode cX12_letter 78 = .ok (.iload 4, 2) := by decide +kernel
theorem dX12_letter_80 : decode cX12_letter 80 = .ok (.bipush 27, 2) := by decide +kernel
theorem dX12_letter_82 : decode cX12_letter 82 = .ok (.irem, 1) := by decide +kernel
theorem dX12_letter_83 : decode cX12_letter 83 = .ok (.ireturn, 1) := by decide +kernel
theorem dX12_home_0 : decode cX12_home 0 = .ok (.iload_n 1, 1) := by decide +kernel
theorem dX12_home_1 : decode cX12_home 1 = .ok (.ifCond .lt 14, 3) := by decide +kernel
theorem dX12_home_4 : decode cX12_home 4 = .ok (.iload_n 1, 1) := by decide +kernel
theorem dX12_home_5 : decode cX12_home 5 = .ok (.aload_n 0, 1) := by decide +kernel
theorem dX12_home_6 : decode cX12_home 6 = .ok (.getfield 19, 3) := by decide +kernel
theorem dX12_home_9 : decode cX12_home 9 = .ok (.invokevirtual 128, 3) := by decide +kernel
theorem dX12_home_12 : decode cX12_home 12 = .ok (.if_icmp .lt 5, 3) := by decide +kernel
theorem dX12_home_15 : decode cX12_home 15 = .ok (.iconst (-1), 1) := by decide +kernel
theorem dX12_home_16 : decode cX12_home 16 = .ok (.ireturn, 1) := by decide +kernel
theorem dX12_home_17 : decode cX12_home 17 = .ok (.iload_n 2, 1) := by decide +kernel
theorem dX12_home_18 : decode cX12_home 18 = .ok (.tableswitch 55 0 2 #[26, 36, 46], 26) := by decide +kernel
theorem dX12_home_44 : decode cX12_home 44 = .ok (.aload_n 0, 1) := by decide +kernel
theorem dX12_home_45 : decode cX12_home 45 = .ok (.getfield 19, 3) := by decide +kernel
theorem dX12_home_48 : decode cX12_home 48 = .ok (.getfield 171, 3) := by decide +kernel
theorem dX12_home_51 : decode cX12_home 51 = .ok (.iload_n 1, 1) := by decide +kernel
theorem dX12_home_52 : decode cX12_home 52 = .ok (.iaload, 1) := by decide +kernel
theorem dX12_home_53 : decode cX12_home 53 = .ok (.ireturn, 1) := by decide +kernel
theorem dX12_home_54 : decode cX12_home 54 = .ok (.aload_n 0, 1) := by decide +kernel
theorem dX12_home_55 : decode cX12_home 55 = .ok (.getfield 19, 3) := by decide +kernel
theorem dX12_home_58 : decode cX12_home 58 = .ok (.getfield 174, 3) := by decide +kernel
theorem dX12_home_61 : decode cX12_home 61 = .ok (.iload_n 1, 1) := by decide +kernel
theorem dX12_home_62 : decode cX12_home 62 = .ok (.iaload, 1) := by decide +kernel
theorem dX12_home_63 : decode cX12_home 63 = .ok (.ireturn, 1) := by decide +kernel
theorem dX12_home_64 : decode cX12_home 64 = .ok (.aload_n 0, 1) := by decide +kernel
theorem dX12_home_65 : decode cX12_home 65 = .ok (.getfield 40, 3) := by decide +kernel
theorem dX12_home_68 : decode cX12_home 68 = .ok (.iload_n 1, 1) := by decide +kernel
theorem dX12_home_69 : decode cX12_home 69 = .ok (.invokevirtual 177, 3) := by decide +kernel
theorem dX12_home_72 : decode cX12_home 72 = .ok (.ireturn, 1) := by decide +kernel
theorem dX12_home_73 : decode cX12_home 73 = .ok (.iconst (-1), 1) := by decide +kernel
theorem dX12_home_74 : decode cX12_home 74 = .ok (.ireturn, 1) := by decide +kernel
theorem dX12_child_0 : decode cX12_child 0 = .ok (.aload_n 0, 1) := by decide +kernel
theorem dX12_child_1 : decode cX12_child 1 = .ok (.iload_n 1, 1) := by decide +kernel
theorem dX12_child_2 : decode cX12_child 2 = .ok (.invokevirtual 180, 3) := by decide +kernel
theorem dX12_child_5 : decode cX12_child 5 = .ok (.ifCond .ne 5, 3) := by decide +kernel
theorem dX12_child_8 : decode cX12_child 8 = .ok (.iconst (-1), 1) := by decide +kernel
theorem dX12_child_9 : decode cX12_child 9 = .ok (.ireturn, 1) := by decide +kernel
theorem dX12_child_10 : decode cX12_child 10 = .ok (.iload_n 2, 1) := by decide +kernel
theorem dX12_child_11 : decode cX12_child 11 = .ok (.tableswitch 75 0 3 #[29, 39, 49, 59], 29) := by decide +kernel
theorem dX12_child_40 : decode cX12_child 40 = .ok (.aload_n 0, 1) := by decide +kernel
theorem dX12_child_41 : decode cX12_child 41 = .ok (.getfield 40, 3) := by decide +kernel
theorem dX12_child_44 : decode cX12_child 44 = .ok (.getfield 184, 3) := by decide +kernel
theorem dX12_child_47 : decode cX12_child 47 = .ok (.iload_n 1, 1) := by decide +kernel
theorem dX12_child_48 : decode cX12_child 48 = .ok (.iaload, 1) := by decide +kernel
theorem dX12_child_49 : decode cX12_child 49 = .ok (.ireturn, 1) := by decide +kernel
theorem dX12_child_50 : decode cX12_child 50 = .ok (.aload_n 0, 1) := by decide +kernel
theorem dX12_child_51 : decode cX12_child 51 = .ok (.getfield 19, 3) := by decide +kernel
theorem dX12_child_54 : decode cX12_child 54 = .ok (.getfield 187, 3) := by decide +kernel
theorem dX12_child_57 : decode cX12_child 57 = .ok (.iload_n 1, 1) := by decide +kernel
theorem dX12_child_58 : decode cX12_child 58 = .ok (.iaload, 1) := by decide +kernel
theorem dX12_child_59 : decode cX12_child 59 = .ok (.ireturn, 1) := by decide +kernel
theorem dX12_child_60 : decode cX12_child 60 = .ok (.aload_n 0, 1) := by decide +kernel
theorem dX12_child_61 : decode cX12_child 61 = .ok (.getfield 19, 3) := by decide +kernel
theorem dX12_child_64 : decode cX12_child 64 = .ok (.getfield 190, 3) := by decide +kernel
theorem dX12_child_67 : decode cX12_child 67 = .ok (.iload_n 1, 1) := by decide +kernel
theorem dX12_child_68 : decode cX12_child 68 = .ok (.iaload, 1) := by decide +kernel
theorem dX12_child_69 : decode cX12_child 69 = .ok (.ireturn, 1) := by decide +kernel
theorem dX12_child_70 : decode cX12_child 70 = .ok (.aload_n 0, 1) := by decide +kernel
theorem dX12_child_71 : decode cX12_child 71 = .ok (.getfield 19, 3) := by decide +kernel
theorem dX12_child_74 : decode cX12_child 74 = .ok (.iload_n 1, 1) := by decide +kernel
theorem dX12_child_75 : decode cX12_child 75 = .ok (.aload_n 0, 1) := by decide +kernel
theorem dX12_child_76 : decode cX12_child 76 = .ok (.getfield 40, 3) := by decide +kernel
theorem dX12_child_79 : decode cX12_child 79 = .ok (.getfield 141, 3) := by decide +kernel
theorem dX12_child_82 : decode cX12_child 82 = .ok (.invokevirtual 193, 3) := by decide +kernel
theorem dX12_child_85 : decode cX12_child 85 = .ok (.ireturn, 1) := by decide +kernel
theorem dX12_child_86 : decode cX12_child 86 = .ok (.iconst (-1), 1) := by decide +kernel
theorem dX12_child_87 : decode cX12_child 87 = .ok (.ireturn, 1) := by decide +kernel
theorem dX12_stone_0 : decode cX12_stone 0 = .ok (.aload_n 0, 1) := by decide +kernel
theorem dX12_stone_1 : decode cX12_stone 1 = .ok (.iload_n 1, 1) := by decide +kernel
theorem dX12_stone_2 : decode cX12_stone 2 = .ok (.invokevirtual 180, 3) := by decide +kernel
theorem dX12_stone_5 : decode cX12_stone 5 = .ok (.ifCond .ne 5, 3) := by decide +kernel
theorem dX12_stone_8 : decode cX12_stone 8 = .ok (.iconst (-1), 1) := by decide +kernel
theorem dX12_stone_9 : decode cX12_stone 9 = .ok (.ireturn, 1) := by decide +kernel
theorem dX12_stone_10 : decode cX12_stone 10 = .ok (.iload_n 2, 1) := by decide +kernel
theorem dX12_stone_11 : decode cX12_stone 11 = .ok (.lookupswitch 44 #[(0, 25), (1, 35)], 25) := by decide +kernel
theorem dX12_stone_36 : decode cX12_stone 36 = .ok (.aload_n 0, 1) := by decide +kernel
theorem dX12_stone_37 : decode cX12_stone 37 = .ok (.getfield 40, 3) := by decide +kernel
theorem dX12_stone_40 : decode cX12_stone 40 = .ok (.getfield 197, 3) := by decide +kernel
theorem dX12_stone_43 : decode cX12_stone 43 = .ok (.iload_n 1, 1) := by decide +kernel
theorem dX12_stone_44 : decode cX12_stone 44 = .ok (.iaload, 1) := by decide +kernel
theorem dX12_stone_45 : decode cX12_stone 45 = .ok (.ireturn, 1) := by decide +kernel
theorem dX12_stone_46 : decode cX12_stone 46 = .ok (.aload_n 0, 1) := by decide +kernel
theorem dX12_stone_47 : decode cX12_stone 47 = .ok (.getfield 40, 3) := by decide +kernel
theorem dX12_stone_50 : decode cX12_stone 50 = .ok (.iload_n 1, 1) := by decide +kernel
theorem dX12_stone_51 : decode cX12_stone 51 = .ok (.invokevirtual 200, 3) := by decide +kernel
theorem dX12_stone_54 : decode cX12_stone 54 = .ok (.ireturn, 1) := by decide +kernel
theorem dX12_stone_55 : decode cX12_stone 55 = .ok (.aload_n 0, 1) := by decide +kernel
theorem dX12_stone_56 : decode cX12_stone 56 = .ok (.iload_n 1, 1) := by decide +kernel
theorem dX12_stone_57 : decode cX12_stone 57 = .ok (.invokevirtual 203, 3) := by decide +kernel
theorem dX12_stone_60 : decode cX12_stone 60 = .ok (.ifCond .eq 15, 3) := by decide +kernel
theorem dX12_stone_63 : decode cX12_stone 63 = .ok (.aload_n 0, 1) := by decide +kernel
theorem dX12_stone_64 : decode cX12_stone 64 = .ok (.getfield 40, 3) := by decide +kernel
theorem dX12_stone_67 : decode cX12_stone 67 = .ok (.iload_n 1, 1) := by decide +kernel
theorem dX12_stone_68 : decode cX12_stone 68 = .ok (.iload_n 2, 1) := by decide +kernel
theorem dX12_stone_69 : decode cX12_stone 69 = .ok (.invokevirtual 206, 3) := by decide +kernel
theorem dX12_stone_72 : decode cX12_stone 72 = .ok (.goto 4, 3) := by decide +kernel
theorem dX12_stone_75 : decode cX12_stone 75 = .ok (.iconst (-1), 1) := by decide +kernel
theorem dX12_stone_76 : decode cX12_stone 76 = .ok (.ireturn, 1) := by decide +kernel
theorem dX12_wall_0 : decode cX12_wall 0 = .ok (.aload_n 0, 1) := by decide +kernel
theorem dX12_wall_1 : decode cX12_wall 1 = .ok (.iload_n 1, 1) := by decide +kernel
theorem dX12_wall_2 : decode cX12_wall 2 = .ok (.invokevirtual 209, 3) := by decide +kernel
theorem dX12_wall_5 : decode cX12_wall 5 = .ok (.ifCond .ne 5, 3) := by decide +kernel
theorem dX12_wall_8 : decode cX12_wall 8 = .ok (.iconst (-1), 1) := by decide +kernel
theorem dX12_wall_9 : decode cX12_wall 9 = .ok (.ireturn, 1) := by decide +kernel
theorem dX12_wall_10 : decode cX12_wall 10 = .ok (.iload_n 2, 1) := by decide +kernel
theorem dX12_wall_11 : decode cX12_wall 11 = .ok (.bipush 10, 2) := by decide +kernel
theorem dX12_wall_13 : decode cX12_wall 13 = .ok (.isub, 1) := by decide +kernel
theorem dX12_wall_14 : decode cX12_wall 14 = .ok (.istore_n 3, 1) := by decide +kernel
theorem dX12_wall_15 : decode cX12_wall 15 = .ok (.iload_n 3, 1) := by decide +kernel
theorem dX12_wall_16 : decode cX12_wall 16 = .ok (.ifCond .lt 30, 3) := by decide +kernel
theorem dX12_wall_19 : decode cX12_wall 19 = .ok (.iload_n 3, 1) := by decide +kernel
theorem dX12_wall_20 : decode cX12_wall 20 = .ok (.aload_n 0, 1) := by decide +kernel
theorem dX12_wall_21 : decode cX12_wall 21 = .ok (.getfield 19, 3) := by decide +kernel
theorem dX12_wall_24 : decode cX12_wall 24 = .ok (.getfield 212, 3) := by decide +kernel
theorem dX12_wall_27 : decode cX12_wall 27 = .ok (.iload_n 1, 1) := by decide +kernel
theorem dX12_wall_28 : decode cX12_wall 28 = .ok (.iaload, 1) := by decide +kernel
theorem dX12_wall_29 : decode cX12_wall 29 = .ok (.if_icmp .ge 17, 3) := by decide +kernel
theorem dX12_wall_32 : decode cX12_wall 32 = .ok (.aload_n 0, 1) := by decide +kernel
theorem dX12_wall_33 : decode cX12_wall 33 = .ok (.getfield 40, 3) := by decide +kernel
theorem dX12_wall_36 : decode cX12_wall 36 = .ok (.getfield 215, 3) := by decide +kernel
theorem dX12_wall_39 : decode cX12_wall 39 = .ok (.iload_n 1, 1) := by decide +kernel
theorem dX12_wall_40 : decode cX12_wall 40 = .ok (.iconst 4, 1) := by decide +kernel
theorem dX12_wall_41 : decode cX12_wall 41 = .ok (.imul, 1) := by decide +kernel
theorem dX12_wall_42 : decode cX12_wall 42 = .ok (.iload_n 3, 1) := by decide +kernel
theorem dX12_wall_43 : decode cX12_wall 43 = .ok (.iadd, 1) := by decide +kernel
theorem dX12_wall_44 : decode cX12_wall 44 = .ok (.iaload, 1) := by decide +kernel
theorem dX12_wall_45 : decode cX12_wall 45 = .ok (.ireturn, 1) := by decide +kernel
theorem dX12_wall_46 : decode cX12_wall 46 = .ok (.iload_n 2, 1) := by decide +kernel
theorem dX12_wall_47 : decode cX12_wall 47 = .ok (.tableswitch 54 0 2 #[25, 35, 45], 25) := by decide +kernel
theorem dX12_wall_72 : decode cX12_wall 72 = .ok (.aload_n 0, 1) := by decide +kernel
theorem dX12_wall_73 : decode cX12_wall 73 = .ok (.getfield 19, 3) := by decide +kernel
theorem dX12_wall_76 : decode cX12_wall 76 = .ok (.getfield 212, 3) := by decide +kernel
theorem dX12_wall_79 : decode cX12_wall 79 = .ok (.iload_n 1, 1) := by decide +kernel
theorem dX12_wall_80 : decode cX12_wall 80 = .ok (.iaload, 1) := by decide +kernel
theorem dX12_wall_81 : decode cX12_wall 81 = .ok (.ireturn, 1) := by decide +kernel
theorem dX12_wall_82 : decode cX12_wall 82 = .ok (.aload_n 0, 1) := by decide +kernel
theorem dX12_wall_83 : decode cX12_wall 83 = .ok (.getfield 19, 3) := by decide +kernel
theorem dX12_wall_86 : decode cX12_wall 86 = .ok (.getfield 218, 3) := by decide +kernel
theorem dX12_wall_89 : decode cX12_wall 89 = .ok (.iload_n 1, 1) := by decide +kernel
theorem dX12_wall_90 : decode cX12_wall 90 = .ok (.iaload, 1) := by decide +kernel
theorem dX12_wall_91 : decode cX12_wall 91 = .ok (.ireturn, 1) := by decide +kernel
theorem dX12_wall_92 : decode cX12_wall 92 = .ok (.aload_n 0, 1) := by decide +kernel
theorem dX12_wall_93 : decode cX12_wall 93 = .ok (.getfield 40, 3) := by decide +kernel
theorem dX12_wall_96 : decode cX12_wall 96 = .ok (.iload_n 1, 1) := by decide +kernel
theorem dX12_wall_97 : decode cX12_wall 97 = .ok (.invokevirtual 221, 3) := by decide +kernel
theorem dX12_wall_100 : decode cX12_wall 100 = .ok (.ireturn, 1) := by decide +kernel
theorem dX12_wall_101 : decode cX12_wall 101 = .ok (.iconst (-1), 1) := by decide +kernel
theorem dX12_wall_102 : decode cX12_wall 102 = .ok (.ireturn, 1) := by decide +kernel
theorem dX12_at_0 : decode cX12_at 0 = .ok (.aload_n 0, 1) := by decide +kernel
theorem dX12_at_1 : decode cX12_at 1 = .ok (.iload_n 1, 1) := by decide +kernel
theorem dX12_at_2 : decode cX12_at 2 = .ok (.invokevirtual 209, 3) := by decide +kernel
theorem dX12_at_5 : decode cX12_at 5 = .ok (.ifCond .eq 20, 3) := by decide +kernel
theorem dX12_at_8 : decode cX12_at 8 = .ok (.iload_n 2, 1) := by decide +kernel
theorem dX12_at_9 : decode cX12_at 9 = .ok (.ifCond .lt 16, 3) := by decide +kernel
theorem dX12_at_12 : decode cX12_at 12 = .ok (.iload_n 2, 1) := by decide +kernel
theorem dX12_at_13 : decode cX12_at 13 = .ok (.aload_n 0, 1) := by decide +kernel
theorem dX12_at_14 : decode cX12_at 14 = .ok (.getfield 19, 3) := by decide +kernel
theorem dX12_at_17 : decode cX12_at 17 = .ok (.getfield 212, 3) := by decide +kernel
theorem dX12_at_20 : decode cX12_at 20 = .ok (.iload_n 1, 1) := by decide +kernel
theorem dX12_at_21 : decode cX12_at 21 = .ok (.iaload, 1) := by decide +kernel
theorem dX12_at_22 : decode cX12_at 22 = .ok (.if_icmp .lt 5, 3) := by decide +kernel
theorem dX12_at_25 : decode cX12_at 25 = .ok (.iconst (-1), 1) := by decide +kernel
theorem dX12_at_26 : decode cX12_at 26 = .ok (.ireturn, 1) := by decide +kernel
theorem dX12_at_27 : decode cX12_at 27 = .ok (.iload_n 3, 1) := by decide +kernel
theorem dX12_at_28 : decode cX12_at 28 = .ok (.ifCond .lt 16, 3) := by decide +kernel
theorem dX12_at_31 : decode cX12_at 31 = .ok (.iload_n 3, 1) := by decide +kernel
theorem dX12_at_32 : decode cX12_at 32 = .ok (.aload_n 0, 1) := by decide +kernel
theorem dX12_at_33 : decode cX12_at 33 = .ok (.getfield 19, 3) := by decide +kernel
theorem dX12_at_36 : decode cX12_at 36 = .ok (.getfield 218, 3) := by decide +kernel
theorem dX12_at_39 : decode cX12_at 39 = .ok (.iload_n 1, 1) := by decide +kernel
theorem dX12_at_40 : decode cX12_at 40 = .ok (.iaload, 1) := by decide +kernel
theorem dX12_at_41 : decode cX12_at 41 = .ok (.if_icmp .lt 5, 3) := by decide +kernel
theorem dX12_at_44 : decode cX12_at 44 = .ok (.iconst (-1), 1) := by decide +kernel
theorem dX12_at_45 : decode cX12_at 45 = .ok (.ireturn, 1) := by decide +kernel
theorem dX12_at_46 : decode cX12_at 46 = .ok (.aload_n 0, 1) := by decide +kernel
theorem dX12_at_47 : decode cX12_at 47 = .ok (.getfield 40, 3) := by decide +kernel
theorem dX12_at_50 : decode cX12_at 50 = .ok (.getfield 224, 3) := by decide +kernel
theorem dX12_at_53 : decode cX12_at 53 = .ok (.iload_n 1, 1) := by decide +kernel
theorem dX12_at_54 : decode cX12_at 54 = .ok (.iload_n 2, 1) := by decide +kernel
theorem dX12_at_55 : decode cX12_at 55 = .ok (.iload_n 3, 1) := by decide +kernel
theorem dX12_at_56 : decode cX12_at 56 = .ok (.invokestatic 227, 3) := by decide +kernel
theorem dX12_at_59 : decode cX12_at 59 = .ok (.iaload, 1) := by decide +kernel
theorem dX12_at_60 : decode cX12_at 60 = .ok (.ireturn, 1) := by decide +kernel
theorem dX12_later_0 : decode cX12_later 0 = .ok (.iload_n 1, 1) := by decide +kernel
theorem dX12_later_1 : decode cX12_later 1 = .ok (.ifCond .lt 33, 3) := by decide +kernel
theorem dX12_later_4 : decode cX12_later 4 = .ok (.iload_n 1, 1) := by decide +kernel
theorem dX12_later_5 : decode cX12_later 5 = .ok (.bipush 60, 2) := by decide +kernel
theorem dX12_later_7 : decode cX12_later 7 = .ok (.if_icmp .gt 27, 3) := by decide +kernel
theorem dX12_later_10 : decode cX12_later 10 = .ok (.aload_n 0, 1) := by decide +kernel
theorem dX12_later_11 : decode cX12_later 11 = .ok (.getfield 40, 3) := by decide +kernel
theorem dX12_later_14 : decode cX12_later 14 = .ok (.getfield 149, 3) := by decide +kernel
theorem dX12_later_17 : decode cX12_later 17 = .ok (.iload_n 1, 1) := by decide +kernel
theorem dX12_later_18 : decode cX12_later 18 = .ok (.iadd, 1) := by decide +kernel
theorem dX12_later_19 : decode cX12_later 19 = .ok (.sipush 999, 3) := by decide +kernel
theorem dX12_later_22 : decode cX12_later 22 = .ok (.if_icmp .gt 12, 3) := by decide +kernel
theorem dX12_later_25 : decode cX12_later 25 = .ok (.iload_n 2, 1) := by decide +kernel
theorem dX12_later_26 : decode cX12_later 26 = .ok (.ifCond .lt 8, 3) := by decide +kernel
theorem dX12_later_29 : decode cX12_later 29 = .ok (.iload_n 2, 1) := by decide +kernel
theorem dX12_later_30 : decode cX12_later 30 = .ok (.iconst 3, 1) := by decide +kernel
theorem dX12_later_31 : decode cX12_later 31 = .ok (.if_icmp .le 5, 3) := by decide +kernel
theorem dX12_later_34 : decode cX12_later 34 = .ok (.iconst (-1), 1) := by decide +kernel
theorem dX12_later_35 : decode cX12_later 35 = .ok (.ireturn, 1) := by decide +kernel
theorem dX12_later_36 : decode cX12_later 36 = .ok (.aload_n 0, 1) := by decide +kernel
theorem dX12_later_37 : decode cX12_later 37 = .ok (.getfield 47, 3) := by decide +kernel
theorem dX12_later_40 : decode cX12_later 40 = .ok (.aload_n 0, 1) := by decide +kernel
theorem dX12_later_41 : decode cX12_later 41 = .ok (.getfield 40, 3) := by decide +kernel
theorem dX12_later_44 : decode cX12_later 44 = .ok (.iload_n 1, 1) := by decide +kernel
theorem dX12_later_45 : decode cX12_later 45 = .ok (.iconst 0, 1) := by decide +kernel
theorem dX12_later_46 : decode cX12_later 46 = .ok (.invokevirtual 231, 3) := by decide +kernel
theorem dX12_later_49 : decode cX12_later 49 = .ok (.pop, 1) := by decide +kernel
theorem dX12_later_50 : decode cX12_later 50 = .ok (.iload_n 2, 1) := by decide +kernel
theorem dX12_later_51 : decode cX12_later 51 = .ok (.tableswitch 60 0 2 #[25, 37, 49], 25) := by decide +kernel
theorem dX12_later_76 : decode cX12_later 76 = .ok (.aload_n 0, 1) := by decide +kernel
theorem dX12_later_77 : decode cX12_later 77 = .ok (.getfield 47, 3) := by decide +kernel
theorem dX12_later_80 : decode cX12_later 80 = .ok (.getfield 235, 3) := by decide +kernel
theorem dX12_later_83 : decode cX12_later 83 = .ok (.iconst 3, 1) := by decide +kernel
theorem dX12_later_84 : decode cX12_later 84 = .ok (.invokevirtual 152, 3) := by decide +kernel
theorem dX12_later_87 : decode cX12_later 87 = .ok (.ireturn, 1) := by decide +kernel
theorem dX12_later_88 : decode cX12_later 88 = .ok (.aload_n 0, 1) := by decide +kernel
theorem dX12_later_89 : decode cX12_later 89 = .ok (.getfield 47, 3) := by decide +kernel
theorem dX12_later_92 : decode cX12_later 92 = .ok (.getfield 235, 3) := by decide +kernel
theorem dX12_later_95 : decode cX12_later 95 = .ok (.iconst 2, 1) := by decide +kernel
theorem dX12_later_96 : decode cX12_later 96 = .ok (.invokevirtual 152, 3) := by decide +kernel
theorem dX12_later_99 : decode cX12_later 99 = .ok (.ireturn, 1) := by decide +kernel
theorem dX12_later_100 : decode cX12_later 100 = .ok (.aload_n 0, 1) := by decide +kernel
theorem dX12_later_101 : decode cX12_later 101 = .ok (.getfield 47, 3) := by decide +kernel
theorem dX12_later_104 : decode cX12_later 104 = .ok (.getfield 235, 3) := by decide +kernel
theorem dX12_later_107 : decode cX12_later 107 = .ok (.getfield 238, 3) := by decide +kernel
theorem dX12_later_110 : decode cX12_later 110 = .ok (.ireturn, 1) := by decide +kernel
theorem dX12_later_111 : decode cX12_later 111 = .ok (.aload_n 0, 1) := by decide +kernel
theorem dX12_later_112 : decode cX12_later 112 = .ok (.getfield 47, 3) := by decide +kernel
theorem dX12_later_115 : decode cX12_later 115 = .ok (.getfield 235, 3) := by decide +kernel
theorem dX12_later_118 : decode cX12_later 118 = .ok (.invokevirtual 241, 3) := by decide +kernel
theorem dX12_later_121 : decode cX12_later 121 = .ok (.ireturn, 1) := by decide +kernel
theorem dX12_built_0 : decode cX12_built 0 = .ok (.aload_n 0, 1) := by decide +kernel
theorem dX12_built_1 : decode cX12_built 1 = .ok (.iload_n 1, 1) := by decide +kernel
theorem dX12_built_2 : decode cX12_built 2 = .ok (.invokevirtual 180, 3) := by decide +kernel
theorem dX12_built_5 : decode cX12_built 5 = .ok (.ifCond .eq 18, 3) := by decide +kernel
theorem dX12_built_8 : decode cX12_built 8 = .ok (.aload_n 0, 1) := by decide +kernel
theorem dX12_built_9 : decode cX12_built 9 = .ok (.getfield 47, 3) := by decide +kernel
theorem dX12_built_12 : decode cX12_built 12 = .ok (.aload_n 0, 1) := by decide +kernel
theorem dX12_built_13 : decode cX12_built 13 = .ok (.getfield 40, 3) := by decide +kernel
theorem dX12_built_16 : decode cX12_built 16 = .ok (.iload_n 1, 1) := by decide +kernel
theorem dX12_built_17 : decode cX12_built 17 = .ok (.invokevirtual 244, 3) := by decide +kernel
theorem dX12_built_20 : decode cX12_built 20 = .ok (.goto 4, 3) := by decide +kernel
theorem dX12_built_23 : decode cX12_built 23 = .ok (.iconst (-1), 1) := by decide +kernel
theorem dX12_built_24 : decode cX12_built 24 = .ok (.ireturn, 1) := by decide +kernel
theorem dX12_down_0 : decode cX12_down 0 = .ok (.aload_n 0, 1) := by decide +kernel
theorem dX12_down_1 : decode cX12_down 1 = .ok (.iload_n 1, 1) := by decide +kernel
theorem dX12_down_2 : decode cX12_down 2 = .ok (.invokevirtual 203, 3) := by decide +kernel
theorem dX12_down_5 : decode cX12_down 5 = .ok (.ifCond .eq 18, 3) := by decide +kernel
theorem dX12_down_8 : decode cX12_down 8 = .ok (.aload_n 0, 1) := by decide +kernel
theorem dX12_down_9 : decode cX12_down 9 = .ok (.getfield 47, 3) := by decide +kernel
theorem dX12_down_12 : decode cX12_down 12 = .ok (.aload_n 0, 1) := by decide +kernel
theorem dX12_down_13 : decode cX12_down 13 = .ok (.getfield 40, 3) := by decide +kernel
theorem dX12_down_16 : decode cX12_down 16 = .ok (.iload_n 1, 1) := by decide +kernel
theorem dX12_down_17 : decode cX12_down 17 = .ok (.invokevirtual 248, 3) := by decide +kernel
theorem dX12_down_20 : decode cX12_down 20 = .ok (.goto 4, 3) := by decide +kernel
theorem dX12_down_23 : decode cX12_down 23 = .ok (.iconst (-1), 1) := by decide +kernel
theorem dX12_down_24 : decode cX12_down 24 = .ok (.ireturn, 1) := by decide +kernel
theorem dX12_props_0 : decode cX12_props 0 = .ok (.aload_n 0, 1) := by decide +kernel
theorem dX12_props_1 : decode cX12_props 1 = .ok (.iload_n 1, 1) := by decide +kernel
theorem dX12_props_2 : decode cX12_props 2 = .ok (.invokevirtual 209, 3) := by decide +kernel
theorem dX12_props_5 : decode cX12_props 5 = .ok (.ifCond .eq 18, 3) := by decide +kernel
theorem dX12_props_8 : decode cX12_props 8 = .ok (.aload_n 0, 1) := by decide +kernel
theorem dX12_props_9 : decode cX12_props 9 = .ok (.getfield 47, 3) := by decide +kernel
theorem dX12_props_12 : decode cX12_props 12 = .ok (.aload_n 0, 1) := by decide +kernel
theorem dX12_props_13 : decode cX12_props 13 = .ok (.getfield 40, 3) := by decide +kernel
theorem dX12_props_16 : decode cX12_props 16 = .ok (.iload_n 1, 1) := by decide +kernel
theorem dX12_props_17 : decode cX12_props 17 = .ok (.invokevirtual 251, 3) := by decide +kernel
theorem dX12_props_20 : decode cX12_props 20 = .ok (.goto 4, 3) := by decide +kernel
theorem dX12_props_23 : decode cX12_props 23 = .ok (.iconst (-1), 1) := by decide +kernel
theorem dX12_props_24 : decode cX12_props 24 = .ok (.ireturn, 1) := by decide +kernel
theorem dX12_strongest_0 : decode cX12_strongest 0 = .ok (.aload_n 0, 1) := by decide +kernel
theorem dX12_strongest_1 : decode cX12_strongest 1 = .ok (.iload_n 1, 1) := by decide +kernel
theorem dX12_strongest_2 : decode cX12_strongest 2 = .ok (.invokevirtual 180, 3) := by decide +kernel
theorem dX12_strongest_5 : decode cX12_strongest 5 = .ok (.ifCond .eq 14, 3) := by decide +kernel
theorem dX12_strongest_8 : decode cX12_strongest 8 = .ok (.aload_n 0, 1) := by decide +kernel
theorem dX12_strongest_9 : decode cX12_strongest 9 = .ok (.getfield 40, 3) := by decide +kernel
theorem dX12_strongest_12 : decode cX12_strongest 12 = .ok (.iload_n 1, 1) := by decide +kernel
theorem dX12_strongest_13 : decode cX12_strongest 13 = .ok (.invokevirtual 254, 3) := by decide +kernel
theorem dX12_strongest_16 : decode cX12_strongest 16 = .ok (.ifCond .eq 5, 3) := by decide +kernel
theorem dX12_strongest_19 : decode cX12_strongest 19 = .ok (.iconst (-1), 1) := by decide +kernel
theorem dX12_strongest_20 : decode cX12_strongest 20 = .ok (.ireturn, 1) := by decide +kernel
theorem dX12_strongest_21 : decode cX12_strongest 21 = .ok (.aload_n 0, 1) := by decide +kernel
theorem dX12_strongest_22 : decode cX12_strongest 22 = .ok (.getfield 47, 3) := by decide +kernel
theorem dX12_strongest_25 : decode cX12_strongest 25 = .ok (.aload_n 0, 1) := by decide +kernel
theorem dX12_strongest_26 : decode cX12_strongest 26 = .ok (.getfield 40, 3) := by decide +kernel
theorem dX12_strongest_29 : decode cX12_strongest 29 = .ok (.iload_n 1, 1) := by decide +kernel
theorem dX12_strongest_30 : decode cX12_strongest 30 = .ok (.invokevirtual 257, 3) := by decide +kernel
theorem dX12_strongest_33 : decode cX12_strongest 33 = .ok (.istore_n 3, 1) := by decide +kernel
theorem dX12_strongest_34 : decode cX12_strongest 34 = .ok (.iload_n 2, 1) := by decide +kernel
theorem dX12_strongest_35 : decode cX12_strongest 35 = .ok (.lookupswitch 37 #[(0, 25), (1, 27)], 25) := by decide +kernel
theorem dX12_strongest_60 : decode cX12_strongest 60 = .ok (.iload_n 3, 1) := by decide +kernel
theorem dX12_strongest_61 : decode cX12_strongest 61 = .ok (.ireturn, 1) := by decide +kernel
theorem dX12_strongest_62 : decode cX12_strongest 62 = .ok (.aload_n 0, 1) := by decide +kernel
theorem dX12_strongest_63 : decode cX12_strongest 63 = .ok (.getfield 40, 3) := by decide +kernel
theorem dX12_strongest_66 : decode cX12_strongest 66 = .ok (.iload_n 1, 1) := by decide +kernel
theorem dX12_strongest_67 : decode cX12_strongest 67 = .ok (.iload_n 3, 1) := by decide +kernel
theorem dX12_strongest_68 : decode cX12_strongest 68 = .ok (.invokevirtual 260, 3) := by decide +kernel
theorem dX12_strongest_71 : decode cX12_strongest 71 = .ok (.ireturn, 1) := by decide +kernel
theorem dX12_strongest_72 : decode cX12_strongest 72 = .ok (.iconst (-1), 1) := by decide +kernel
theorem dX12_strongest_73 : decode cX12_strongest 73 = .ok (.ireturn, 1) := by decide +kernel
theorem dX12_order_0 : decode cX12_order 0 = .ok (.aload_n 0, 1) := by decide +kernel
theorem dX12_order_1 : decode cX12_order 1 = .ok (.getfield 40, 3) := by decide +kernel
theorem dX12_order_4 : decode cX12_order 4 = .ok (.iconst 2, 1) := by decide +kernel
theorem dX12_order_5 : decode cX12_order 5 = .ok (.invokevirtual 152, 3) := by decide +kernel
theorem dX12_order_8 : decode cX12_order 8 = .ok (.istore_n 2, 1) := by decide +kernel
theorem dX12_order_9 : decode cX12_order 9 = .ok (.iload_n 2, 1) := by decide +kernel
theorem dX12_order_10 : decode cX12_order 10 = .ok (.invokestatic 144, 3) := by decide +kernel
theorem dX12_order_13 : decode cX12_order 13 = .ok (.istore_n 3, 1) := by decide +kernel
theorem dX12_order_14 : decode cX12_order 14 = .ok (.iload_n 3, 1) := by decide +kernel
theorem dX12_order_15 : decode cX12_order 15 = .ok (.bipush 6, 2) := by decide +kernel
theorem dX12_order_17 : decode cX12_order 17 = .ok (.if_icmp .gt 13, 3) := by decide +kernel
theorem dX12_order_20 : decode cX12_order 20 = .ok (.iload_n 1, 1) := by decide +kernel
theorem dX12_order_21 : decode cX12_order 21 = .ok (.iconst (-1), 1) := by decide +kernel
theorem dX12_order_22 : decode cX12_order 22 = .ok (.if_icmp .lt 8, 3) := by decide +kernel
theorem dX12_order_25 : decode cX12_order 25 = .ok (.iload_n 1, 1) := by decide +kernel
theorem dX12_order_26 : decode cX12_order 26 = .ok (.iload_n 3, 1) := by decide +kernel
theorem dX12_order_27 : decode cX12_order 27 = .ok (.if_icmp .lt 5, 3) := by decide +kernel
theorem dX12_order_30 : decode cX12_order 30 = .ok (.iconst (-1), 1) := by decide +kernel
theorem dX12_order_31 : decode cX12_order 31 = .ok (.ireturn, 1) := by decide +kernel
theorem dX12_order_32 : decode cX12_order 32 = .ok (.aload_n 0, 1) := by decide +kernel
theorem dX12_order_33 : decode cX12_order 33 = .ok (.getfield 47, 3) := by decide +kernel
theorem dX12_order_36 : decode cX12_order 36 = .ok (.aload_n 0, 1) := by decide +kernel
theorem dX12_order_37 : decode cX12_order 37 = .ok (.getfield 40, 3) := by decide +kernel
theorem dX12_order_40 : decode cX12_order 40 = .ok (.iload_n 2, 1) := by decide +kernel
theorem dX12_order_41 : decode cX12_order 41 = .ok (.invokevirtual 263, 3) := by decide +kernel
theorem dX12_order_44 : decode cX12_order 44 = .ok (.iload_n 1, 1) := by decide +kernel
theorem dX12_order_45 : decode cX12_order 45 = .ok (.iconst (-1), 1) := by decide +kernel
theorem dX12_order_46 : decode cX12_order 46 = .ok (.if_icmp .ne 13, 3) := by decide +kernel
theorem dX12_order_49 : decode cX12_order 49 = .ok (.aload_n 0, 1) := by decide +kernel
theorem dX12_order_50 : decode cX12_order 50 = .ok (.getfield 47, 3) := by decide +kernel
theorem dX12_order_53 : decode cX12_order 53 = .ok (.getfield 267, 3) := by decide +kernel
theorem dX12_order_56 : decode cX12_order 56 = .ok (.goto 12, 3) := by decide +kernel
theorem dX12_order_59 : decode cX12_order 59 = .ok (.aload_n 0, 1) := by decide +kernel
theorem dX12_order_60 : decode cX12_order 60 = .ok (.getfield 47, 3) := by decide +kernel
theorem dX12_order_63 : decode cX12_order 63 = .ok (.getfield 270, 3) := by decide +kernel
theorem dX12_order_66 : decode cX12_order 66 = .ok (.iload_n 1, 1) := by decide +kernel
theorem dX12_order_67 : decode cX12_order 67 = .ok (.iaload, 1) := by decide +kernel
theorem dX12_order_68 : decode cX12_order 68 = .ok (.ireturn, 1) := by decide +kernel
theorem dX12_reconcile_0 : decode cX12_reconcile 0 = .ok (.iload_n 1, 1) := by decide +kernel
theorem dX12_reconcile_1 : decode cX12_reconcile 1 = .ok (.iconst 1, 1) := by decide +kernel
theorem dX12_reconcile_2 : decode cX12_reconcile 2 = .ok (.if_icmp .lt 24, 3) := by decide +kernel
theorem dX12_reconcile_5 : decode cX12_reconcile 5 = .ok (.iload_n 1, 1) := by decide +kernel
theorem dX12_reconcile_6 : decode cX12_reconcile 6 = .ok (.bipush 40, 2) := by decide +kernel
theorem dX12_reconcile_8 : decode cX12_reconcile 8 = .ok (.if_icmp .gt 18, 3) := by decide +kernel
theorem dX12_reconcile_11 : decode cX12_reconcile 11 = .ok (.aload_n 0, 1) := by decide +kernel
theorem dX12_reconcile_12 : decode cX12_reconcile 12 = .ok (.getfield 40, 3) := by decide +kernel
theorem dX12_reconcile_15 : decode cX12_reconcile 15 = .ok (.getfield 149, 3) := by decide +kernel
theorem dX12_reconcile_18 : decode cX12_reconcile 18 = .ok (.iload_n 1, 1) := by decide +kernel
theorem dX12_reconcile_19 : decode cX12_reconcile 19 = .ok (.iadd, 1) := by decide +kernel
theorem dX12_reconcile_20 : decode cX12_reconcile 20 = .ok (.sipush 999, 3) := by decide +kernel
theorem dX12_reconcile_23 : decode cX12_reconcile 23 = .ok (.if_icmp .le 5, 3) := by decide +kernel
theorem dX12_reconcile_26 : decode cX12_reconcile 26 = .ok (.iconst (-1), 1) := by decide +kernel
theorem dX12_reconcile_27 : decode cX12_reconcile 27 = .ok (.ireturn, 1) := by decide +kernel
theorem dX12_reconcile_28 : decode cX12_reconcile 28 = .ok (.aload_n 0, 1) := by decide +kernel
theorem dX12_reconcile_29 : decode cX12_reconcile 29 = .ok (.getfield 47, 3) := by decide +kernel
theorem dX12_reconcile_32 : decode cX12_reconcile 32 = .ok (.aload_n 0, 1) := by decide +kernel
theorem dX12_reconcile_33 : decode cX12_reconcile 33 = .ok (.getfield 40, 3) := by decide +kernel
theorem dX12_reconcile_36 : decode cX12_reconcile 36 = .ok (.iload_n 1, 1) := by decide +kernel
theorem dX12_reconcile_37 : decode cX12_reconcile 37 = .ok (.iconst 0, 1) := by decide +kernel
theorem dX12_reconcile_38 : decode cX12_reconcile 38 = .ok (.invokevirtual 231, 3) := by decide +kernel
theorem dX12_reconcile_41 : decode cX12_reconcile 41 = .ok (.istore_n 3, 1) := by decide +kernel
theorem dX12_reconcile_42 : decode cX12_reconcile 42 = .ok (.iload_n 3, 1) := by decide +kernel
theorem dX12_reconcile_43 : decode cX12_reconcile 43 = .ok (.istore 4, 2) := by decide +kernel
theorem dX12_reconcile_45 : decode cX12_reconcile 45 = .ok (.iconst (-1), 1) := by decide +kernel
theorem dX12_reconcile_46 : decode cX12_reconcile 46 = .ok (.istore 5, 2) := by decide +kernel
theorem dX12_reconcile_48 : decode cX12_reconcile 48 = .ok (.iconst 0, 1) := by decide +kernel
theorem dX12_reconcile_49 : decode cX12_reconcile 49 = .ok (.istore 6, 2) := by decide +kernel
theorem dX12_reconcile_51 : decode cX12_reconcile 51 = .ok (.iload 6, 2) := by decide +kernel
theorem dX12_reconcile_53 : decode cX12_reconcile 53 = .ok (.aload_n 0, 1) := by decide +kernel
theorem dX12_reconcile_54 : decode cX12_reconcile 54 = .ok (.getfield 19, 3) := by decide +kernel
theorem dX12_reconcile_57 : decode cX12_reconcile 57 = .ok (.getfield 138, 3) := by decide +kernel
theorem dX12_reconcile_60 : decode cX12_reconcile 60 = .ok (.if_icmp .ge 73, 3) := by decide +kernel
theorem dX12_reconcile_63 : decode cX12_reconcile 63 = .ok (.aload_n 0, 1) := by decide +kernel
theorem dX12_reconcile_64 : decode cX12_reconcile 64 = .ok (.getfield 40, 3) := by decide +kernel
theorem dX12_reconcile_67 : decode cX12_reconcile 67 = .ok (.getfield 141, 3) := by decide +kernel
theorem dX12_reconcile_70 : decode cX12_reconcile 70 = .ok (.iconst 1, 1) := by decide +kernel
theorem dX12_reconcile_71 : decode cX12_reconcile 71 = .ok (.iload 6, 2) := by decide +kernel
theorem dX12_reconcile_73 : decode cX12_reconcile 73 = .ok (.ishl, 1) := by decide +kernel
theorem dX12_reconcile_74 : decode cX12_reconcile 74 = .ok (.iand, 1) := by decide +kernel
theorem dX12_reconcile_75 : decode cX12_reconcile 75 = .ok (.ifCond .ne 7, 3) := by decide +kernel
theorem dX12_reconcile_78 : decode cX12_reconcile 78 = .ok (.iconst 1, 1) := by decide +kernel
theorem dX12_reconcile_79 : decode cX12_reconcile 79 = .ok (.goto 4, 3) := by decide +kernel
theorem dX12_reconcile_82 : decode cX12_reconcile 82 = .ok (.iconst 0, 1) := by decide +kernel
theorem dX12_reconcile_83 : decode cX12_reconcile 83 = .ok (.istore 7, 2) := by decide +kernel
theorem dX12_reconcile_85 : decode cX12_reconcile 85 = .ok (.iload 7, 2) := by decide +kernel
theorem dX12_reconcile_87 : decode cX12_reconcile 87 = .ok (.ifCond .eq 22, 3) := by decide +kernel
theorem dX12_reconcile_90 : decode cX12_reconcile 90 = .ok (.aload_n 0, 1) := by decide +kernel
theorem dX12_reconcile_91 : decode cX12_reconcile 91 = .ok (.getfield 47, 3) := by decide +kernel
theorem dX12_reconcile_94 : decode cX12_reconcile 94 = .ok (.aload_n 0, 1) := by decide +kernel
theorem dX12_reconcile_95 : decode cX12_reconcile 95 = .ok (.getfield 40, 3) := by decide +kernel
theorem dX12_reconcile_98 : decode cX12_reconcile 98 = .ok (.iload_n 1, 1) := by decide +kernel
theorem dX12_reconcile_99 : decode cX12_reconcile 99 = .ok (.iconst 1, 1) := by decide +kernel
theorem dX12_reconcile_100 : decode cX12_reconcile 100 = .ok (.iload 6, 2) := by decide +kernel
theorem dX12_reconcile_102 : decode cX12_reconcile 102 = .ok (.ishl, 1) := by decide +kernel
theorem dX12_reconcile_103 : decode cX12_reconcile 103 = .ok (.invokevirtual 231, 3) := by decide +kernel
theorem dX12_reconcile_106 : decode cX12_reconcile 106 = .ok (.goto 4, 3) := by decide +kernel
theorem dX12_reconcile_109 : decode cX12_reconcile 109 = .ok (.iload_n 3, 1) := by decide +kernel
theorem dX12_reconcile_110 : decode cX12_reconcile 110 = .ok (.istore 8, 2) := by decide +kernel
theorem dX12_reconcile_112 : decode cX12_reconcile 112 = .ok (.iload 8, 2) := by decide +kernel
theorem dX12_reconcile_114 : decode cX12_reconcile 114 = .ok (.iload 4, 2) := by decide +kernel
theorem dX12_reconcile_116 : decode cX12_reconcile 116 = .ok (.if_icmp .le 11, 3) := by decide +kernel
theorem dX12_reconcile_119 : decode cX12_reconcile 119 = .ok (.iload 8, 2) := by decide +kernel
theorem dX12_reconcile_121 : decode cX12_reconcile 121 = .ok (.istore 4, 2) := by decide +kernel
theorem dX12_reconcile_123 : decode cX12_reconcile 123 = .ok (.iload 6, 2) := by decide +kernel
theorem dX12_reconcile_125 : decode cX12_reconcile 125 = .ok (.istore 5, 2) := by decide +kernel
theorem dX12_reconcile_127 : decode cX12_reconcile 127 = .ok (.iinc 6 1, 3) := by decide +kernel
theorem dX12_reconcile_130 : decode cX12_reconcile 130 = .ok (.goto (-79), 3) := by decide +kernel
theorem dX12_reconcile_133 : decode cX12_reconcile 133 = .ok (.iload 5, 2) := by decide +kernel
theorem dX12_reconcile_135 : decode cX12_reconcile 135 = .ok (.iconst (-1), 1) := by decide +kernel
theorem dX12_reconcile_136 : decode cX12_reconcile 136 = .ok (.if_icmp .eq 12, 3) := by decide +kernel
theorem dX12_reconcile_139 : decode cX12_reconcile 139 = .ok (.iload_n 2, 1) := by decide +kernel
theorem dX12_reconcile_140 : decode cX12_reconcile 140 = .ok (.ifCond .lt 8, 3) := by decide +kernel
theorem dX12_reconcile_143 : decode cX12_reconcile 143 = .ok (.iload_n 2, 1) := by decide +kernel
theorem dX12_reconcile_144 : decode cX12_reconcile 144 = .ok (.iconst 1, 1) := by decide +kernel
theorem dX12_reconcile_145 : decode cX12_reconcile 145 = .ok (.if_icmp .le 5, 3) := by decide +kernel
theorem dX12_reconcile_148 : decode cX12_reconcile 148 = .ok (.iconst (-1), 1) := by decide +kernel
theorem dX12_reconcile_149 : decode cX12_reconcile 149 = .ok (.ireturn, 1) := by decide +kernel
theorem dX12_reconcile_150 : decode cX12_reconcile 150 = .ok (.iload_n 2, 1) := by decide +kernel
theorem dX12_reconcile_151 : decode cX12_reconcile 151 = .ok (.ifCond .ne 8, 3) := by decide +kernel
theorem dX12_reconcile_154 : decode cX12_reconcile 154 = .ok (.iload 5, 2) := by decide +kernel
theorem dX12_reconcile_156 : decode cX12_reconcile 156 = .ok (.goto 7, 3) := by decide +kernel
theorem dX12_reconcile_159 : decode cX12_reconcile 159 = .ok (.iload 4, 2) := by decide +kernel
theorem dX12_reconcile_161 : decode cX12_reconcile 161 = .ok (.iload_n 3, 1) := by decide +kernel
theorem dX12_reconcile_162 : decode cX12_reconcile 162 = .ok (.isub, 1) := by decide +kernel
theorem dX12_reconcile_163 : decode cX12_reconcile 163 = .ok (.ireturn, 1) := by decide +kernel
theorem dX12_seams_0 : decode cX12_seams 0 = .ok (.aload_n 0, 1) := by decide +kernel
theorem dX12_seams_1 : decode cX12_seams 1 = .ok (.getfield 61, 3) := by decide +kernel
theorem dX12_seams_4 : decode cX12_seams 4 = .ok (.aload_n 0, 1) := by decide +kernel
theorem dX12_seams_5 : decode cX12_seams 5 = .ok (.getfield 19, 3) := by decide +kernel
theorem dX12_seams_8 : decode cX12_seams 8 = .ok (.aload_n 0, 1) := by decide +kernel
theorem dX12_seams_9 : decode cX12_seams 9 = .ok (.getfield 10, 3) := by decide +kernel
theorem dX12_seams_12 : decode cX12_seams 12 = .ok (.iload_n 1, 1) := by decide +kernel
theorem dX12_seams_13 : decode cX12_seams 13 = .ok (.invokevirtual 273, 3) := by decide +kernel
theorem dX12_seams_16 : decode cX12_seams 16 = .ok (.istore_n 2, 1) := by decide +kernel
theorem dX12_seams_17 : decode cX12_seams 17 = .ok (.aload_n 0, 1) := by decide +kernel
theorem dX12_seams_18 : decode cX12_seams 18 = .ok (.getfield 10, 3) := by decide +kernel
theorem dX12_seams_21 : decode cX12_seams 21 = .ok (.iconst 0, 1) := by decide +kernel
theorem dX12_seams_22 : decode cX12_seams 22 = .ok (.putfield 86, 3) := by decide +kernel
theorem dX12_seams_25 : decode cX12_seams 25 = .ok (.iload_n 2, 1) := by decide +kernel
theorem dX12_seams_26 : decode cX12_seams 26 = .ok (.ifCond .eq 16, 3) := by decide +kernel
theorem dX12_seams_29 : decode cX12_seams 29 = .ok (.aload_n 0, 1) := by decide +kernel
theorem dX12_seams_30 : decode cX12_seams 30 = .ok (.getfield 61, 3) := by decide +kernel
theorem dX12_seams_33 : decode cX12_seams 33 = .ok (.getfield 277, 3) := by decide +kernel
theorem dX12_seams_36 : decode cX12_seams 36 = .ok (.invokestatic 144, 3) := by decide +kernel
theorem dX12_seams_39 : decode cX12_seams 39 = .ok (.goto 8, 3) := by decide +kernel
theorem dX12_seams_42 : decode cX12_seams 42 = .ok (.aload_n 0, 1) := by decide +kernel
theorem dX12_seams_43 : decode cX12_seams 43 = .ok (.iconst 5, 1) := by decide +kernel
theorem dX12_seams_44 : decode cX12_seams 44 = .ok (.invokevirtual 89, 3) := by decide +kernel
theorem dX12_seams_47 : decode cX12_seams 47 = .ok (.ireturn, 1) := by decide +kernel
theorem dX12_homes_0 : decode cX12_homes 0 = .ok (.iload_n 1, 1) := by decide +kernel
theorem dX12_homes_1 : decode cX12_homes 1 = .ok (.lookupswitch 47 #[(0, 27), (1, 35)], 27) := by decide +kernel
theorem dX12_homes_28 : decode cX12_homes 28 = .ok (.aload_n 0, 1) := by decide +kernel
theorem dX12_homes_29 : decode cX12_homes 29 = .ok (.getfield 61, 3) := by decide +kernel
theorem dX12_homes_32 : decode cX12_homes 32 = .ok (.getfield 277, 3) := by decide +kernel
theorem dX12_homes_35 : decode cX12_homes 35 = .ok (.ireturn, 1) := by decide +kernel
theorem dX12_homes_36 : decode cX12_homes 36 = .ok (.aload_n 0, 1) := by decide +kernel
theorem dX12_homes_37 : decode cX12_homes 37 = .ok (.getfield 61, 3) := by decide +kernel
theorem dX12_homes_40 : decode cX12_homes 40 = .ok (.aload_n 0, 1) := by decide +kernel
theorem dX12_homes_41 : decode cX12_homes 41 = .ok (.getfield 19, 3) := by decide +kernel
theorem dX12_homes_44 : decode cX12_homes 44 = .ok (.invokevirtual 280, 3) := by decide +kernel
theorem dX12_homes_47 : decode cX12_homes 47 = .ok (.ireturn, 1) := by decide +kernel
theorem dX12_homes_48 : decode cX12_homes 48 = .ok (.iconst (-1), 1) := by decide +kernel
theorem dX12_homes_49 : decode cX12_homes 49 = .ok (.ireturn, 1) := by decide +kernel
theorem dX12_pulling_0 : decode cX12_pulling 0 = .ok (.aload_n 0, 1) := by decide +kernel
theorem dX12_pulling_1 : decode cX12_pulling 1 = .ok (.iload_n 1, 1) := by decide +kernel
theorem dX12_pulling_2 : decode cX12_pulling 2 = .ok (.invokevirtual 209, 3) := by decide +kernel
theorem dX12_pulling_5 : decode cX12_pulling 5 = .ok (.ifCond .ne 5, 3) := by decide +kernel
theorem dX12_pulling_8 : decode cX12_pulling 8 = .ok (.iconst (-1), 1) := by decide +kernel
theorem dX12_pulling_9 : decode cX12_pulling 9 = .ok (.ireturn, 1) := by decide +kernel
theorem dX12_pulling_10 : decode cX12_pulling 10 = .ok (.aload_n 0, 1) := by decide +kernel
theorem dX12_pulling_11 : decode cX12_pulling 11 = .ok (.getfield 47, 3) := by decide +kernel
theorem dX12_pulling_14 : decode cX12_pulling 14 = .ok (.aload_n 0, 1) := by decide +kernel
theorem dX12_pulling_15 : decode cX12_pulling 15 = .ok (.getfield 40, 3) := by decide +kernel
theorem dX12_pulling_18 : decode cX12_pulling 18 = .ok (.iload_n 1, 1) := by decide +kernel
theorem dX12_pulling_19 : decode cX12_pulling 19 = .ok (.invokevirtual 284, 3) := by decide +kernel
theorem dX12_pulling_22 : decode cX12_pulling 22 = .ok (.ifCond .eq 7, 3) := by decide +kernel
theorem dX12_pulling_25 : decode cX12_pulling 25 = .ok (.iconst 1, 1) := by decide +kernel
theorem dX12_pulling_26 : decode cX12_pulling 26 = .ok (.goto 4, 3) := by decide +kernel
theorem dX12_pulling_29 : decode cX12_pulling 29 = .ok (.iconst 0, 1) := by decide +kernel
theorem dX12_pulling_30 : decode cX12_pulling 30 = .ok (.ireturn, 1) := by decide +kernel
theorem dX12_years_0 : decode cX12_years 0 = .ok (.aload_n 0, 1) := by decide +kernel
theorem dX12_years_1 : decode cX12_years 1 = .ok (.iload_n 1, 1) := by decide +kernel
theorem dX12_years_2 : decode cX12_years 2 = .ok (.invokevirtual 288, 3) := by decide +kernel
theorem dX12_years_5 : decode cX12_years 5 = .ok (.ifCond .ne 9, 3) := by decide +kernel
theorem dX12_years_8 : decode cX12_years 8 = .ok (.aload_n 0, 1) := by decide +kernel
theorem dX12_years_9 : decode cX12_years 9 = .ok (.iconst 2, 1) := by decide +kernel
theorem dX12_years_10 : decode cX12_years 10 = .ok (.invokevirtual 89, 3) := by decide +kernel
theorem dX12_years_13 : decode cX12_years 13 = .ok (.ireturn, 1) := by decide +kernel
theorem dX12_years_14 : decode cX12_years 14 = .ok (.aload_n 0, 1) := by decide +kernel
theorem dX12_years_15 : decode cX12_years 15 = .ok (.getfield 54, 3) := by decide +kernel
theorem dX12_years_18 : decode cX12_years 18 = .ok (.aload_n 0, 1) := by decide +kernel
theorem dX12_years_19 : decode cX12_years 19 = .ok (.getfield 40, 3) := by decide +kernel
theorem dX12_years_22 : decode cX12_years 22 = .ok (.invokevirtual 291, 3) := by decide +kernel
theorem dX12_years_25 : decode cX12_years 25 = .ok (.aload_n 0, 1) := by decide +kernel
theorem dX12_years_26 : decode cX12_years 26 = .ok (.getfield 40, 3) := by decide +kernel
theorem dX12_years_29 : decode cX12_years 29 = .ok (.iconst 0, 1) := by decide +kernel
theorem dX12_years_30 : decode cX12_years 30 = .ok (.putfield 295, 3) := by decide +kernel
theorem dX12_years_33 : decode cX12_years 33 = .ok (.iconst 0, 1) := by decide +kernel
theorem dX12_years_34 : decode cX12_years 34 = .ok (.istore_n 2, 1) := by decide +kernel
theorem dX12_years_35 : decode cX12_years 35 = .ok (.iload_n 2, 1) := by decide +kernel
theorem dX12_years_36 : decode cX12_years 36 = .ok (.iload_n 1, 1) := by decide +kernel
theorem dX12_years_37 : decode cX12_years 37 = .ok (.if_icmp .ge 17, 3) := by decide +kernel
theorem dX12_years_40 : decode cX12_years 40 = .ok (.aload_n 0, 1) := by decide +kernel
theorem dX12_years_41 : decode cX12_years 41 = .ok (.getfield 40, 3) := by decide +kernel
theorem dX12_years_44 : decode cX12_years 44 = .ok (.iconst 0, 1) := by decide +kernel
theorem dX12_years_45 : decode cX12_years 45 = .ok (.invokevirtual 298, 3) := by decide +kernel
theorem dX12_years_48 : decode cX12_years 48 = .ok (.iinc 2 1, 3) := by decide +kernel
theorem dX12_years_51 : decode cX12_years 51 = .ok (.goto (-16), 3) := by decide +kernel
theorem dX12_years_54 : decode cX12_years 54 = .ok (.aload_n 0, 1) := by decide +kernel
theorem dX12_years_55 : decode cX12_years 55 = .ok (.getfield 40, 3) := by decide +kernel
theorem dX12_years_58 : decode cX12_years 58 = .ok (.getfield 295, 3) := by decide +kernel
theorem dX12_years_61 : decode cX12_years 61 = .ok (.ireturn, 1) := by decide +kernel
theorem dX12_chance_0 : decode cX12_chance 0 = .ok (.aload_n 0, 1) := by decide +kernel
theorem dX12_chance_1 : decode cX12_chance 1 = .ok (.iload_n 1, 1) := by decide +kernel
theorem dX12_chance_2 : decode cX12_chance 2 = .ok (.invokevirtual 288, 3) := by decide +kernel
theorem dX12_chance_5 : decode cX12_chance 5 = .ok (.ifCond .ne 9, 3) := by decide +kernel
theorem dX12_chance_8 : decode cX12_chance 8 = .ok (.aload_n 0, 1) := by decide +kernel
theorem dX12_chance_9 : decode cX12_chance 9 = .ok (.iconst 2, 1) := by decide +kernel
theorem dX12_chance_10 : decode cX12_chance 10 = .ok (.invokevirtual 89, 3) := by decide +kernel
theorem dX12_chance_13 : decode cX12_chance 13 = .ok (.ireturn, 1) := by decide +kernel
theorem dX12_chance_14 : decode cX12_chance 14 = .ok (.aload_n 0, 1) := by decide +kernel
theorem dX12_chance_15 : decode cX12_chance 15 = .ok (.getfield 54, 3) := by decide +kernel
theorem dX12_chance_18 : decode cX12_chance 18 = .ok (.aload_n 0, 1) := by decide +kernel
theorem dX12_chance_19 : decode cX12_chance 19 = .ok (.getfield 40, 3) := by decide +kernel
theorem dX12_chance_22 : decode cX12_chance 22 = .ok (.invokevirtual 291, 3) := by decide +kernel
theorem dX12_chance_25 : decode cX12_chance 25 = .ok (.iconst 0, 1) := by decide +kernel
theorem dX12_chance_26 : decode cX12_chance 26 = .ok (.istore_n 2, 1) := by decide +kernel
theorem dX12_chance_27 : decode cX12_chance 27 = .ok (.iconst 0, 1) := by decide +kernel
theorem dX12_chance_28 : decode cX12_chance 28 = .ok (.istore_n 3, 1) := by decide +kernel
theorem dX12_chance_29 : decode cX12_chance 29 = .ok (.iload_n 3, 1) := by decide +kernel
theorem dX12_chance_30 : decode cX12_chance 30 = .ok (.iload_n 1, 1) := by decide +kernel
theorem dX12_chance_31 : decode cX12_chance 31 = .ok (.if_icmp .ge 52, 3) := by decide +kernel
theorem dX12_chance_34 : decode cX12_chance 34 = .ok (.aload_n 0, 1) := by decide +kernel
theorem dX12_chance_35 : decode cX12_chance 35 = .ok (.invokevirtual 302, 3) := by decide +kernel
theorem dX12_chance_38 : decode cX12_chance 38 = .ok (.aload_n 0, 1) := by decide +kernel
theorem dX12_chance_39 : decode cX12_chance 39 = .ok (.getfield 19, 3) := by decide +kernel
theorem dX12_chance_42 : decode cX12_chance 42 = .ok (.getfield 305, 3) := by decide +kernel
theorem dX12_chance_45 : decode cX12_chance 45 = .ok (.if_icmp .ge 7, 3) := by decide +kernel
theorem dX12_chance_48 : decode cX12_chance 48 = .ok (.iconst 1, 1) := by decide +kernel
theorem dX12_chance_49 : decode cX12_chance 49 = .ok (.goto 4, 3) := by decide +kernel
theorem dX12_chance_52 : decode cX12_chance 52 = .ok (.iconst 0, 1) := by decide +kernel
theorem dX12_chance_53 : decode cX12_chance 53 = .ok (.istore 4, 2) := by decide +kernel
theorem dX12_chance_55 : decode cX12_chance 55 = .ok (.aload_n 0, 1) := by decide +kernel
theorem dX12_chance_56 : decode cX12_chance 56 = .ok (.getfield 40, 3) := by decide +kernel
theorem dX12_chance_59 : decode cX12_chance 59 = .ok (.iload 4, 2) := by decide +kernel
theorem dX12_chance_61 : decode cX12_chance 61 = .ok (.invokevirtual 298, 3) := by decide +kernel
theorem dX12_chance_64 : decode cX12_chance 64 = .ok (.iload_n 2, 1) := by decide +kernel
theorem dX12_chance_65 : decode cX12_chance 65 = .ok (.iload 4, 2) := by decide +kernel
theorem dX12_chance_67 : decode cX12_chance 67 = .ok (.ifCond .eq 7, 3) := by decide +kernel
theorem dX12_chance_70 : decode cX12_chance 70 = .ok (.iconst 1, 1) := by decide +kernel
theorem dX12_chance_71 : decode cX12_chance 71 = .ok (.goto 4, 3) := by decide +kernel
theorem dX12_chance_74 : decode cX12_chance 74 = .ok (.iconst 0, 1) := by decide +kernel
theorem dX12_chance_75 : decode cX12_chance 75 = .ok (.iadd, 1) := by decide +kernel
theorem dX12_chance_76 : decode cX12_chance 76 = .ok (.istore_n 2, 1) := by decide +kernel
theorem dX12_chance_77 : decode cX12_chance 77 = .ok (.iinc 3 1, 3) := by decide +kernel
theorem dX12_chance_80 : decode cX12_chance 80 = .ok (.goto (-51), 3) := by decide +kernel
theorem dX12_chance_83 : decode cX12_chance 83 = .ok (.iload_n 2, 1) := by decide +kernel
theorem dX12_chance_84 : decode cX12_chance 84 = .ok (.ireturn, 1) := by decide +kernel
theorem dX12_go_0 : decode cX12_go 0 = .ok (.aload_n 0, 1) := by decide +kernel
theorem dX12_go_1 : decode cX12_go 1 = .ok (.iload_n 1, 1) := by decide +kernel
theorem dX12_go_2 : decode cX12_go 2 = .ok (.invokevirtual 180, 3) := by decide +kernel
theorem dX12_go_5 : decode cX12_go 5 = .ok (.ifCond .eq 22, 3) := by decide +kernel
theorem dX12_go_8 : decode cX12_go 8 = .ok (.iload_n 2, 1) := by decide +kernel
theorem dX12_go_9 : decode cX12_go 9 = .ok (.ifCond .lt 18, 3) := by decide +kernel
theorem dX12_go_12 : decode cX12_go 12 = .ok (.iload_n 2, 1) := by decide +kernel
theorem dX12_go_13 : decode cX12_go 13 = .ok (.aload_n 0, 1) := by decide +kernel
theorem dX12_go_14 : decode cX12_go 14 = .ok (.getfield 19, 3) := by decide +kernel
theorem dX12_go_17 : decode cX12_go 17 = .ok (.invokevirtual 128, 3) := by decide +kernel
theorem dX12_go_20 : decode cX12_go 20 = .ok (.if_icmp .ge 7, 3) := by decide +kernel
theorem dX12_go_23 : decode cX12_go 23 = .ok (.iconst 1, 1) := by decide +kernel
theorem dX12_go_24 : decode cX12_go 24 = .ok (.goto 4, 3) := by decide +kernel
theorem dX12_go_27 : decode cX12_go 27 = .ok (.iconst 0, 1) := by decide +kernel
theorem dX12_go_28 : decode cX12_go 28 = .ok (.istore_n 3, 1) := by decide +kernel
theorem dX12_go_29 : decode cX12_go 29 = .ok (.iload_n 3, 1) := by decide +kernel
theorem dX12_go_30 : decode cX12_go 30 = .ok (.ifCond .eq 16, 3) := by decide +kernel
theorem dX12_go_33 : decode cX12_go 33 = .ok (.aload_n 0, 1) := by decide +kernel
theorem dX12_go_34 : decode cX12_go 34 = .ok (.getfield 40, 3) := by decide +kernel
theorem dX12_go_37 : decode cX12_go 37 = .ok (.getfield 184, 3) := by decide +kernel
theorem dX12_go_40 : decode cX12_go 40 = .ok (.iload_n 1, 1) := by decide +kernel
theorem dX12_go_41 : decode cX12_go 41 = .ok (.iaload, 1) := by decide +kernel
theorem dX12_go_42 : decode cX12_go 42 = .ok (.iload_n 2, 1) := by decide +kernel
theorem dX12_go_43 : decode cX12_go 43 = .ok (.if_icmp .ne 11, 3) := by decide +kernel
theorem dX12_go_46 : decode cX12_go 46 = .ok (.aload_n 0, 1) := by decide +kernel
theorem dX12_go_47 : decode cX12_go 47 = .ok (.iconst 3, 1) := by decide +kernel
theorem dX12_go_48 : decode cX12_go 48 = .ok (.invokevirtual 89, 3) := by decide +kernel
theorem dX12_go_51 : decode cX12_go 51 = .ok (.pop, 1) := by decide +kernel
theorem dX12_go_52 : decode cX12_go 52 = .ok (.iconst 0, 1) := by decide +kernel
theorem dX12_go_53 : decode cX12_go 53 = .ok (.ireturn, 1) := by decide +kernel
theorem dX12_go_54 : decode cX12_go 54 = .ok (.aload_n 0, 1) := by decide +kernel
theorem dX12_go_55 : decode cX12_go 55 = .ok (.getfield 54, 3) := by decide +kernel
theorem dX12_go_58 : decode cX12_go 58 = .ok (.aload_n 0, 1) := by decide +kernel
theorem dX12_go_59 : decode cX12_go 59 = .ok (.getfield 40, 3) := by decide +kernel
theorem dX12_go_62 : decode cX12_go 62 = .ok (.invokevirtual 291, 3) := by decide +kernel
theorem dX12_go_65 : decode cX12_go 65 = .ok (.aload_n 0, 1) := by decide +kernel
theorem dX12_go_66 : decode cX12_go 66 = .ok (.getfield 40, 3) := by decide +kernel
theorem dX12_go_69 : decode cX12_go 69 = .ok (.getfield 184, 3) := by decide +kernel
theorem dX12_go_72 : decode cX12_go 72 = .ok (.iload_n 1, 1) := by decide +kernel
theorem dX12_go_73 : decode cX12_go 73 = .ok (.iload_n 2, 1) := by decide +kernel
theorem dX12_go_74 : decode cX12_go 74 = .ok (.iastore, 1) := by decide +kernel
theorem dX12_go_75 : decode cX12_go 75 = .ok (.iconst 1, 1) := by decide +kernel
theorem dX12_go_76 : decode cX12_go 76 = .ok (.ireturn, 1) := by decide +kernel
theorem dX12_pull_0 : decode cX12_pull 0 = .ok (.aload_n 0, 1) := by decide +kernel
theorem dX12_pull_1 : decode cX12_pull 1 = .ok (.iload_n 1, 1) := by decide +kernel
theorem dX12_pull_2 : decode cX12_pull 2 = .ok (.invokevirtual 203, 3) := by decide +kernel
theorem dX12_pull_5 : decode cX12_pull 5 = .ok (.ifCond .ne 9, 3) := by decide +kernel
theorem dX12_pull_8 : decode cX12_pull 8 = .ok (.aload_n 0, 1) := by decide +kernel
theorem dX12_pull_9 : decode cX12_pull 9 = .ok (.iconst 3, 1) := by decide +kernel
theorem dX12_pull_10 : decode cX12_pull 10 = .ok (.invokevirtual 89, 3) := by decide +kernel
theorem dX12_pull_13 : decode cX12_pull 13 = .ok (.ireturn, 1) := by decide +kernel
theorem dX12_pull_14 : decode cX12_pull 14 = .ok (.aload_n 0, 1) := by decide +kernel
theorem dX12_pull_15 : decode cX12_pull 15 = .ok (.getfield 54, 3) := by decide +kernel
theorem dX12_pull_18 : decode cX12_pull 18 = .ok (.aload_n 0, 1) := by decide +kernel
theorem dX12_pull_19 : decode cX12_pull 19 = .ok (.getfield 40, 3) := by decide +kernel
theorem dX12_pull_22 : decode cX12_pull 22 = .ok (.invokevirtual 291, 3) := by decide +kernel
theorem dX12_pull_25 : decode cX12_pull 25 = .ok (.aload_n 0, 1) := by decide +kernel
theorem dX12_pull_26 : decode cX12_pull 26 = .ok (.getfield 40, 3) := by decide +kernel
theorem dX12_pull_29 : decode cX12_pull 29 = .ok (.iconst 0, 1) := by decide +kernel
theorem dX12_pull_30 : decode cX12_pull 30 = .ok (.putfield 238, 3) := by decide +kernel
theorem dX12_pull_33 : decode cX12_pull 33 = .ok (.aload_n 0, 1) := by decide +kernel
theorem dX12_pull_34 : decode cX12_pull 34 = .ok (.getfield 40, 3) := by decide +kernel
theorem dX12_pull_37 : decode cX12_pull 37 = .ok (.iload_n 1, 1) := by decide +kernel
theorem dX12_pull_38 : decode cX12_pull 38 = .ok (.invokevirtual 308, 3) := by decide +kernel
theorem dX12_pull_41 : decode cX12_pull 41 = .ok (.aload_n 0, 1) := by decide +kernel
theorem dX12_pull_42 : decode cX12_pull 42 = .ok (.getfield 40, 3) := by decide +kernel
theorem dX12_pull_45 : decode cX12_pull 45 = .ok (.getfield 238, 3) := by decide +kernel
theorem dX12_pull_48 : decode cX12_pull 48 = .ok (.ireturn, 1) := by decide +kernel
theorem dX12_peace_0 : decode cX12_peace 0 = .ok (.iload_n 1, 1) := by decide +kernel
theorem dX12_peace_1 : decode cX12_peace 1 = .ok (.ifCond .lt 28, 3) := by decide +kernel
theorem dX12_peace_4 : decode cX12_peace 4 = .ok (.iload_n 1, 1) := by decide +kernel
theorem dX12_peace_5 : decode cX12_peace 5 = .ok (.aload_n 0, 1) := by decide +kernel
theorem dX12_peace_6 : decode cX12_peace 6 = .ok (.getfield 19, 3) := by decide +kernel
theorem dX12_peace_9 : decode cX12_peace 9 = .ok (.getfield 138, 3) := by decide +kernel
theorem dX12_peace_12 : decode cX12_peace 12 = .ok (.if_icmp .ge 17, 3) := by decide +kernel
theorem dX12_peace_15 : decode cX12_peace 15 = .ok (.aload_n 0, 1) := by decide +kernel
theorem dX12_peace_16 : decode cX12_peace 16 = .ok (.getfield 40, 3) := by decide +kernel
theorem dX12_peace_19 : decode cX12_peace 19 = .ok (.getfield 141, 3) := by decide +kernel
theorem dX12_peace_22 : decode cX12_peace 22 = .ok (.iconst 1, 1) := by decide +kernel
theorem dX12_peace_23 : decode cX12_peace 23 = .ok (.iload_n 1, 1) := by decide +kernel
theorem dX12_peace_24 : decode cX12_peace 24 = .ok (.ishl, 1) := by decide +kernel
theorem dX12_peace_25 : decode cX12_peace 25 = .ok (.iand, 1) := by decide +kernel
theorem dX12_peace_26 : decode cX12_peace 26 = .ok (.ifCond .eq 11, 3) := by decide +kernel
theorem dX12_peace_29 : decode cX12_peace 29 = .ok (.aload_n 0, 1) := by decide +kernel
theorem dX12_peace_30 : decode cX12_peace 30 = .ok (.iconst 3, 1) := by decide +kernel
theorem dX12_peace_31 : decode cX12_peace 31 = .ok (.invokevirtual 89, 3) := by decide +kernel
theorem dX12_peace_34 : decode cX12_peace 34 = .ok (.pop, 1) := by decide +kernel
theorem dX12_peace_35 : decode cX12_peace 35 = .ok (.iconst 0, 1) := by decide +kernel
theorem dX12_peace_36 : decode cX12_peace 36 = .ok (.ireturn, 1) := by decide +kernel
theorem dX12_peace_37 : decode cX12_peace 37 = .ok (.aload_n 0, 1) := by decide +kernel
theorem dX12_peace_38 : decode cX12_peace 38 = .ok (.getfield 54, 3) := by decide +kernel
theorem dX12_peace_41 : decode cX12_peace 41 = .ok (.aload_n 0, 1) := by decide +kernel
theorem dX12_peace_42 : decode cX12_peace 42 = .ok (.getfield 40, 3) := by decide +kernel
theorem dX12_peace_45 : decode cX12_peace 45 = .ok (.invokevirtual 291, 3) := by decide +kernel
theorem dX12_peace_48 : decode cX12_peace 48 = .ok (.aload_n 0, 1) := by decide +kernel
theorem dX12_peace_49 : decode cX12_peace 49 = .ok (.getfield 40, 3) := by decide +kernel
theorem dX12_peace_52 : decode cX12_peace 52 = .ok (.dup, 1) := by decide +kernel
theorem dX12_peace_53 : decode cX12_peace 53 = .ok (.getfield 141, 3) := by decide +kernel
theorem dX12_peace_56 : decode cX12_peace 56 = .ok (.iconst 1, 1) := by decide +kernel
theorem dX12_peace_57 : decode cX12_peace 57 = .ok (.iload_n 1, 1) := by decide +kernel
theorem dX12_peace_58 : decode cX12_peace 58 = .ok (.ishl, 1) := by decide +kernel
theorem dX12_peace_59 : decode cX12_peace 59 = .ok (.ior, 1) := by decide +kernel
theorem dX12_peace_60 : decode cX12_peace 60 = .ok (.putfield 141, 3) := by decide +kernel
theorem dX12_peace_63 : decode cX12_peace 63 = .ok (.iconst 1, 1) := by decide +kernel
theorem dX12_peace_64 : decode cX12_peace 64 = .ok (.ireturn, 1) := by decide +kernel
theorem dX12_undo_0 : decode cX12_undo 0 = .ok (.aload_n 0, 1) := by decide +kernel
theorem dX12_undo_1 : decode cX12_undo 1 = .ok (.getfield 54, 3) := by decide +kernel
theorem dX12_undo_4 : decode cX12_undo 4 = .ok (.aload_n 0, 1) := by decide +kernel
theorem dX12_undo_5 : decode cX12_undo 5 = .ok (.getfield 40, 3) := by decide +kernel
theorem dX12_undo_8 : decode cX12_undo 8 = .ok (.invokevirtual 311, 3) := by decide +kernel
theorem dX12_undo_11 : decode cX12_undo 11 = .ok (.ifCond .ne 11, 3) := by decide +kernel
theorem dX12_undo_14 : decode cX12_undo 14 = .ok (.aload_n 0, 1) := by decide +kernel
theorem dX12_undo_15 : decode cX12_undo 15 = .ok (.iconst 4, 1) := by decide +kernel
theorem dX12_undo_16 : decode cX12_undo 16 = .ok (.invokevirtual 89, 3) := by decide +kernel
theorem dX12_undo_19 : decode cX12_undo 19 = .ok (.pop, 1) := by decide +kernel
theorem dX12_undo_20 : decode cX12_undo 20 = .ok (.iconst 0, 1) := by decide +kernel
theorem dX12_undo_21 : decode cX12_undo 21 = .ok (.ireturn, 1) := by decide +kernel
theorem dX12_undo_22 : decode cX12_undo 22 = .ok (.iconst 1, 1) := by decide +kernel
theorem dX12_undo_23 : decode cX12_undo 23 = .ok (.ireturn, 1) := by decide +kernel
theorem dX12_seed_0 : decode cX12_seed 0 = .ok (.iload_n 1, 1) := by decide +kernel
theorem dX12_seed_1 : decode cX12_seed 1 = .ok (.ifCond .ge 11, 3) := by decide +kernel
theorem dX12_seed_4 : decode cX12_seed 4 = .ok (.aload_n 0, 1) := by decide +kernel
theorem dX12_seed_5 : decode cX12_seed 5 = .ok (.iconst 5, 1) := by decide +kernel
theorem dX12_seed_6 : decode cX12_seed 6 = .ok (.invokevirtual 89, 3) := by decide +kernel
theorem dX12_seed_9 : decode cX12_seed 9 = .ok (.pop, 1) := by decide +kernel
theorem dX12_seed_10 : decode cX12_seed 10 = .ok (.iconst 0, 1) := by decide +kernel
theorem dX12_seed_11 : decode cX12_seed 11 = .ok (.ireturn, 1) := by decide +kernel
theorem dX12_seed_12 : decode cX12_seed 12 = .ok (.aload_n 0, 1) := by decide +kernel
theorem dX12_seed_13 : decode cX12_seed 13 = .ok (.iload_n 1, 1) := by decide +kernel
theorem dX12_seed_14 : decode cX12_seed 14 = .ok (.putfield 83, 3) := by decide +kernel
theorem dX12_seed_17 : decode cX12_seed 17 = .ok (.iconst 1, 1) := by decide +kernel
theorem dX12_seed_18 : decode cX12_seed 18 = .ok (.ireturn, 1) := by decide +kernel
theorem dX12_kept_0 : decode cX12_kept 0 = .ok (.iload_n 1, 1) := by decide +kernel
theorem dX12_kept_1 : decode cX12_kept 1 = .ok (.ifCond .lt 14, 3) := by decide +kernel
theorem dX12_kept_4 : decode cX12_kept 4 = .ok (.iload_n 1, 1) := by decide +kernel
theorem dX12_kept_5 : decode cX12_kept 5 = .ok (.aload_n 0, 1) := by decide +kernel
theorem dX12_kept_6 : decode cX12_kept 6 = .ok (.getfield 40, 3) := by decide +kernel
theorem dX12_kept_9 : decode cX12_kept 9 = .ok (.getfield 158, 3) := by decide +kernel
theorem dX12_kept_12 : decode cX12_kept 12 = .ok (.if_icmp .lt 5, 3) := by decide +kernel
theorem dX12_kept_15 : decode cX12_kept 15 = .ok (.iconst (-1), 1) := by decide +kernel
theorem dX12_kept_16 : decode cX12_kept 16 = .ok (.ireturn, 1) := by decide +kernel
theorem dX12_kept_17 : decode cX12_kept 17 = .ok (.aload_n 0, 1) := by decide +kernel
theorem dX12_kept_18 : decode cX12_kept 18 = .ok (.getfield 40, 3) := by decide +kernel
theorem dX12_kept_21 : decode cX12_kept 21 = .ok (.getfield 315, 3) := by decide +kernel
theorem dX12_kept_24 : decode cX12_kept 24 = .ok (.iload_n 1, 1) := by decide +kernel
theorem dX12_kept_25 : decode cX12_kept 25 = .ok (.iaload, 1) := by decide +kernel
theorem dX12_kept_26 : decode cX12_kept 26 = .ok (.istore_n 3, 1) := by decide +kernel
theorem dX12_kept_27 : decode cX12_kept 27 = .ok (.iload_n 2, 1) := by decide +kernel
theorem dX12_kept_28 : decode cX12_kept 28 = .ok (.tableswitch 54 0 3 #[32, 37, 44, 50], 32) := by decide +kernel
theorem dX12_kept_60 : decode cX12_kept 60 = .ok (.iload_n 3, 1) := by decide +kernel
theorem dX12_kept_61 : decode cX12_kept 61 = .ok (.bipush 6, 2) := by decide +kernel
theorem dX12_kept_63 : decode cX12_kept 63 = .ok (.ishr, 1) := by decide +kernel
theorem dX12_kept_64 : decode cX12_kept 64 = .ok (.ireturn, 1) := by decide +kernel
theorem dX12_kept_65 : decode cX12_kept 65 = .ok (.iload_n 3, 1) := by decide +kernel
theorem dX12_kept_66 : decode cX12_kept 66 = .ok (.iconst 3, 1) := by decide +kernel
theorem dX12_kept_67 : decode cX12_kept 67 = .ok (.ishr, 1) := by decide +kernel
theorem dX12_kept_68 : decode cX12_kept 68 = .ok (.bipush 7, 2) := by decide +kernel
theorem dX12_kept_70 : decode cX12_kept 70 = .ok (.iand, 1) := by decide +kernel
theorem dX12_kept_71 : decode cX12_kept 71 = .ok (.ireturn, 1) := by decide +kernel
theorem dX12_kept_72 : decode cX12_kept 72 = .ok (.iload_n 3, 1) := by decide +kernel
theorem dX12_kept_73 : decode cX12_kept 73 = .ok (.iconst 1, 1) := by decide +kernel
theorem dX12_kept_74 : decode cX12_kept 74 = .ok (.ishr, 1) := by decide +kernel
theorem dX12_kept_75 : decode cX12_kept 75 = .ok (.iconst 3, 1) := by decide +kernel
theorem dX12_kept_76 : decode cX12_kept 76 = .ok (.iand, 1) := by decide +kernel
theorem dX12_kept_77 : decode cX12_kept 77 = .ok (.ireturn, 1) := by decide +kernel
theorem dX12_kept_78 : decode cX12_kept 78 = .ok (.iload_n 3, 1) := by decide +kernel
theorem dX12_kept_79 : decode cX12_kept 79 = .ok (.iconst 1, 1) := by decide +kernel
theorem dX12_kept_80 : decode cX12_kept 80 = .ok (.iand, 1) := by decide +kernel
theorem dX12_kept_81 : decode cX12_kept 81 = .ok (.ireturn, 1) := by decide +kernel
theorem dX12_kept_82 : decode cX12_kept 82 = .ok (.iconst (-1), 1) := by decide +kernel
theorem dX12_kept_83 : decode cX12_kept 83 = .ok (.ireturn, 1) := by decide +kernel
theorem dX12_image_0 : decode cX12_image 0 = .ok (.aload_n 0, 1) := by decide +kernel
theorem dX12_image_1 : decode cX12_image 1 = .ok (.getfield 68, 3) := by decide +kernel
theorem dX12_image_4 : decode cX12_image 4 = .ok (.aload_n 0, 1) := by decide +kernel
theorem dX12_image_5 : decode cX12_image 5 = .ok (.getfield 40, 3) := by decide +kernel
theorem dX12_image_8 : decode cX12_image 8 = .ok (.invokevirtual 318, 3) := by decide +kernel
theorem dX12_image_11 : decode cX12_image 11 = .ok (.aload_n 0, 1) := by decide +kernel
theorem dX12_image_12 : decode cX12_image 12 = .ok (.getfield 68, 3) := by decide +kernel
theorem dX12_image_15 : decode cX12_image 15 = .ok (.getfield 321, 3) := by decide +kernel
theorem dX12_image_18 : decode cX12_image 18 = .ok (.ireturn, 1) := by decide +kernel
theorem dX12_octet_0 : decode cX12_octet 0 = .ok (.iload_n 1, 1) := by decide +kernel
theorem dX12_octet_1 : decode cX12_octet 1 = .ok (.ifCond .lt 26, 3) := by decide +kernel
theorem dX12_octet_4 : decode cX12_octet 4 = .ok (.iload_n 1, 1) := by decide +kernel
theorem dX12_octet_5 : decode cX12_octet 5 = .ok (.aload_n 0, 1) := by decide +kernel
theorem dX12_octet_6 : decode cX12_octet 6 = .ok (.getfield 68, 3) := by decide +kernel
theorem dX12_octet_9 : decode cX12_octet 9 = .ok (.getfield 321, 3) := by decide +kernel
theorem dX12_octet_12 : decode cX12_octet 12 = .ok (.if_icmp .ge 15, 3) := by decide +kernel
theorem dX12_octet_15 : decode cX12_octet 15 = .ok (.aload_n 0, 1) := by decide +kernel
theorem dX12_octet_16 : decode cX12_octet 16 = .ok (.getfield 68, 3) := by decide +kernel
theorem dX12_octet_19 : decode cX12_octet 19 = .ok (.getfield 322, 3) := by decide +kernel
theorem dX12_octet_22 : decode cX12_octet 22 = .ok (.iload_n 1, 1) := by decide +kernel
theorem dX12_octet_23 : decode cX12_octet 23 = .ok (.iaload, 1) := by decide +kernel
theorem dX12_octet_24 : decode cX12_octet 24 = .ok (.goto 4, 3) := by decide +kernel
theorem dX12_octet_27 : decode cX12_octet 27 = .ok (.iconst (-1), 1) := by decide +kernel
theorem dX12_octet_28 : decode cX12_octet 28 = .ok (.ireturn, 1) := by decide +kernel
theorem dX12_on_0 : decode cX12_on 0 = .ok (.aload_n 0, 1) := by decide +kernel
theorem dX12_on_1 : decode cX12_on 1 = .ok (.getfield 10, 3) := by decide +kernel
theorem dX12_on_4 : decode cX12_on 4 = .ok (.aload_n 0, 1) := by decide +kernel
theorem dX12_on_5 : decode cX12_on 5 = .ok (.getfield 19, 3) := by decide +kernel
theorem dX12_on_8 : decode cX12_on 8 = .ok (.aload_n 0, 1) := by decide +kernel
theorem dX12_on_9 : decode cX12_on 9 = .ok (.getfield 47, 3) := by decide +kernel
theorem dX12_on_12 : decode cX12_on 12 = .ok (.getfield 235, 3) := by decide +kernel
theorem dX12_on_15 : decode cX12_on 15 = .ok (.invokestatic 325, 3) := by decide +kernel
theorem dX12_on_18 : decode cX12_on 18 = .ok (.istore_n 1, 1) := by decide +kernel
theorem dX12_on_19 : decode cX12_on 19 = .ok (.aload_n 0, 1) := by decide +kernel
theorem dX12_on_20 : decode cX12_on 20 = .ok (.getfield 10, 3) := by decide +kernel
theorem dX12_on_23 : decode cX12_on 23 = .ok (.iconst 0, 1) := by decide +kernel
theorem dX12_on_24 : decode cX12_on 24 = .ok (.putfield 86, 3) := by decide +kernel
theorem dX12_on_27 : decode cX12_on 27 = .ok (.iload_n 1, 1) := by decide +kernel
theorem dX12_on_28 : decode cX12_on 28 = .ok (.ifCond .ne 11, 3) := by decide +kernel
theorem dX12_on_31 : decode cX12_on 31 = .ok (.aload_n 0, 1) := by decide +kernel
theorem dX12_on_32 : decode cX12_on 32 = .ok (.iconst 5, 1) := by decide +kernel
theorem dX12_on_33 : decode cX12_on 33 = .ok (.invokevirtual 89, 3) := by decide +kernel
theorem dX12_on_36 : decode cX12_on 36 = .ok (.pop, 1) := by decide +kernel
theorem dX12_on_37 : decode cX12_on 37 = .ok (.iconst 0, 1) := by decide +kernel
theorem dX12_on_38 : decode cX12_on 38 = .ok (.ireturn, 1) := by decide +kernel
theorem dX12_on_39 : decode cX12_on 39 = .ok (.aload_n 0, 1) := by decide +kernel
theorem dX12_on_40 : decode cX12_on 40 = .ok (.getfield 40, 3) := by decide +kernel
theorem dX12_on_43 : decode cX12_on 43 = .ok (.aload_n 0, 1) := by decide +kernel
theorem dX12_on_44 : decode cX12_on 44 = .ok (.getfield 47, 3) := by decide +kernel
theorem dX12_on_47 : decode cX12_on 47 = .ok (.getfield 235, 3) := by decide +kernel
theorem dX12_on_50 : decode cX12_on 50 = .ok (.invokevirtual 329, 3) := by decide +kernel
theorem dX12_on_53 : decode cX12_on 53 = .ok (.aload_n 0, 1) := by decide +kernel
theorem dX12_on_54 : decode cX12_on 54 = .ok (.getfield 54, 3) := by decide +kernel
theorem dX12_on_57 : decode cX12_on 57 = .ok (.invokevirtual 123, 3) := by decide +kernel
theorem dX12_on_60 : decode cX12_on 60 = .ok (.iconst 1, 1) := by decide +kernel
theorem dX12_on_61 : decode cX12_on 61 = .ok (.ireturn, 1) := by decide +kernel
theorem dX12_status_0 : decode cX12_status 0 = .ok (.iload_n 1, 1) := by decide +kernel
theorem dX12_status_1 : decode cX12_status 1 = .ok (.ifCond .lt 17, 3) := by decide +kernel
theorem dX12_status_4 : decode cX12_status 4 = .ok (.iload_n 1, 1) := by decide +kernel
theorem dX12_status_5 : decode cX12_status 5 = .ok (.iconst 5, 1) := by decide +kernel
theorem dX12_status_6 : decode cX12_status 6 = .ok (.if_icmp .gt 12, 3) := by decide +kernel
theorem dX12_status_9 : decode cX12_status 9 = .ok (.aload_n 0, 1) := by decide +kernel
theorem dX12_status_10 : decode cX12_status 10 = .ok (.getfield 72, 3) := by decide +kernel
theorem dX12_status_13 : decode cX12_status 13 = .ok (.iload_n 1, 1) := by decide +kernel
theorem dX12_status_14 : decode cX12_status 14 = .ok (.iaload, 1) := by decide +kernel
theorem dX12_status_15 : decode cX12_status 15 = .ok (.goto 4, 3) := by decide +kernel
theorem dX12_status_18 : decode cX12_status 18 = .ok (.iconst (-1), 1) := by decide +kernel
theorem dX12_status_19 : decode cX12_status 19 = .ok (.ireturn, 1) := by decide +kernel
theorem dX12_refuse_0 : decode cX12_refuse 0 = .ok (.aload_n 0, 1) := by decide +kernel
theorem dX12_refuse_1 : decode cX12_refuse 1 = .ok (.getfield 72, 3) := by decide +kernel
theorem dX12_refuse_4 : decode cX12_refuse 4 = .ok (.iload_n 1, 1) := by decide +kernel
theorem dX12_refuse_5 : decode cX12_refuse 5 = .ok (.dup2, 1) := by decide +kernel
theorem dX12_refuse_6 : decode cX12_refuse 6 = .ok (.iaload, 1) := by decide +kernel
theorem dX12_refuse_7 : decode cX12_refuse 7 = .ok (.iconst 1, 1) := by decide +kernel
theorem dX12_refuse_8 : decode cX12_refuse 8 = .ok (.iadd, 1) := by decide +kernel
theorem dX12_refuse_9 : decode cX12_refuse 9 = .ok (.iastore, 1) := by decide +kernel
theorem dX12_refuse_10 : decode cX12_refuse 10 = .ok (.iconst (-1), 1) := by decide +kernel
theorem dX12_refuse_11 : decode cX12_refuse 11 = .ok (.ireturn, 1) := by decide +kernel
theorem dX12_isChild_0 : decode cX12_isChild 0 = .ok (.iload_n 1, 1) := by decide +kernel
theorem dX12_isChild_1 : decode cX12_isChild 1 = .ok (.ifCond .lt 18, 3) := by decide +kernel
theorem dX12_isChild_4 : decode cX12_isChild 4 = .ok (.iload_n 1, 1) := by decide +kernel
theorem dX12_isChild_5 : decode cX12_isChild 5 = .ok (.aload_n 0, 1) := by decide +kernel
theorem dX12_isChild_6 : decode cX12_isChild 6 = .ok (.getfield 19, 3) := by decide +kernel
theorem dX12_isChild_9 : decode cX12_isChild 9 = .ok (.invokevirtual 132, 3) := by decide +kernel
theorem dX12_isChild_12 : decode cX12_isChild 12 = .ok (.if_icmp .ge 7, 3) := by decide +kernel
theorem dX12_isChild_15 : decode cX12_isChild 15 = .ok (.iconst 1, 1) := by decide +kernel
theorem dX12_isChild_16 : decode cX12_isChild 16 = .ok (.goto 4, 3) := by decide +kernel
theorem dX12_isChild_19 : decode cX12_isChild 19 = .ok (.iconst 0, 1) := by decide +kernel
theorem dX12_isChild_20 : decode cX12_isChild 20 = .ok (.ireturn, 1) := by decide +kernel
theorem dX12_isBuilt_0 : decode cX12_isBuilt 0 = .ok (.aload_n 0, 1) := by decide +kernel
theorem dX12_isBuilt_1 : decode cX12_isBuilt 1 = .ok (.iload_n 1, 1) := by decide +kernel
theorem dX12_isBuilt_2 : decode cX12_isBuilt 2 = .ok (.invokevirtual 180, 3) := by decide +kernel
theorem dX12_isBuilt_5 : decode cX12_isBuilt 5 = .ok (.ifCond .eq 20, 3) := by decide +kernel
theorem dX12_isBuilt_8 : decode cX12_isBuilt 8 = .ok (.aload_n 0, 1) := by decide +kernel
theorem dX12_isBuilt_9 : decode cX12_isBuilt 9 = .ok (.getfield 40, 3) := by decide +kernel
theorem dX12_isBuilt_12 : decode cX12_isBuilt 12 = .ok (.getfield 332, 3) := by decide +kernel
theorem dX12_isBuilt_15 : decode cX12_isBuilt 15 = .ok (.iload_n 1, 1) := by decide +kernel
theorem dX12_isBuilt_16 : decode cX12_isBuilt 16 = .ok (.iaload, 1) := by decide +kernel
theorem dX12_isBuilt_17 : decode cX12_isBuilt 17 = .ok (.iconst (-1), 1) := by decide +kernel
theorem dX12_isBuilt_18 : decode cX12_isBuilt 18 = .ok (.if_icmp .eq 7, 3) := by decide +kernel
theorem dX12_isBuilt_21 : decode cX12_isBuilt 21 = .ok (.iconst 1, 1) := by decide +kernel
theorem dX12_isBuilt_22 : decode cX12_isBuilt 22 = .ok (.goto 4, 3) := by decide +kernel
theorem dX12_isBuilt_25 : decode cX12_isBuilt 25 = .ok (.iconst 0, 1) := by decide +kernel
theorem dX12_isBuilt_26 : decode cX12_isBuilt 26 = .ok (.ireturn, 1) := by decide +kernel
theorem dX12_isWall_0 : decode cX12_isWall 0 = .ok (.iload_n 1, 1) := by decide +kernel
theorem dX12_isWall_1 : decode cX12_isWall 1 = .ok (.ifCond .lt 18, 3) := by decide +kernel
theorem dX12_isWall_4 : decode cX12_isWall 4 = .ok (.iload_n 1, 1) := by decide +kernel
theorem dX12_isWall_5 : decode cX12_isWall 5 = .ok (.aload_n 0, 1) := by decide +kernel
theorem dX12_isWall_6 : decode cX12_isWall 6 = .ok (.getfield 19, 3) := by decide +kernel
theorem dX12_isWall_9 : decode cX12_isWall 9 = .ok (.invokevirtual 135, 3) := by decide +kernel
theorem dX12_isWall_12 : decode cX12_isWall 12 = .ok (.if_icmp .ge 7, 3) := by decide +kernel
theorem dX12_isWall_15 : decode cX12_isWall 15 = .ok (.iconst 1, 1) := by decide +kernel
theorem dX12_isWall_16 : decode cX12_isWall 16 = .ok (.goto 4, 3) := by decide +kernel
theorem dX12_isWall_19 : decode cX12_isWall 19 = .ok (.iconst 0, 1) := by decide +kernel
theorem dX12_isWall_20 : decode cX12_isWall 20 = .ok (.ireturn, 1) := by decide +kernel
theorem dX12_canPass_0 : decode cX12_canPass 0 = .ok (.iload_n 1, 1) := by decide +kernel
theorem dX12_canPass_1 : decode cX12_canPass 1 = .ok (.iconst 1, 1) := by decide +kernel
theorem dX12_canPass_2 : decode cX12_canPass 2 = .ok (.if_icmp .lt 28, 3) := by decide +kernel
theorem dX12_canPass_5 : decode cX12_canPass 5 = .ok (.iload_n 1, 1) := by decide +kernel
theorem dX12_canPass_6 : decode cX12_canPass 6 = .ok (.bipush 100, 2) := by decide +kernel
theorem dX12_canPass_8 : decode cX12_canPass 8 = .ok (.if_icmp .gt 22, 3) := by decide +kernel
theorem dX12_canPass_11 : decode cX12_canPass 11 = .ok (.aload_n 0, 1) := by decide +kernel
theorem dX12_canPass_12 : decode cX12_canPass 12 = .ok (.getfield 40, 3) := by decide +kernel
theorem dX12_canPass_15 : decode cX12_canPass 15 = .ok (.getfield 149, 3) := by decide +kernel
theorem dX12_canPass_18 : decode cX12_canPass 18 = .ok (.iload_n 1, 1) := by decide +kernel
theorem dX12_canPass_19 : decode cX12_canPass 19 = .ok (.iadd, 1) := by decide +kernel
theorem dX12_canPass_20 : decode cX12_canPass 20 = .ok (.sipush 999, 3) := by decide +kernel
theorem dX12_canPass_23 : decode cX12_canPass 23 = .ok (.if_icmp .gt 7, 3) := by decide +kernel
theorem dX12_canPass_26 : decode cX12_canPass 26 = .ok (.iconst 1, 1) := by decide +kernel
theorem dX12_canPass_27 : decode cX12_canPass 27 = .ok (.goto 4, 3) := by decide +kernel
theorem dX12_canPass_30 : decode cX12_canPass 30 = .ok (.iconst 0, 1) := by decide +kernel
theorem dX12_canPass_31 : decode cX12_canPass 31 = .ok (.ireturn, 1) := by decide +kernel
theorem dX12_drawHundred_0 : decode cX12_drawHundred 0 = .ok (.aload_n 0, 1) := by decide +kernel
theorem dX12_drawHundred_1 : decode cX12_drawHundred 1 = .ok (.ldc2_w 334, 3) := by decide +kernel
theorem dX12_drawHundred_4 : decode cX12_drawHundred 4 = .ok (.aload_n 0, 1) := by decide +kernel
theorem dX12_drawHundred_5 : decode cX12_drawHundred 5 = .ok (.getfield 83, 3) := by decide +kernel
theorem dX12_drawHundred_8 : decode cX12_drawHundred 8 = .ok (.i2l, 1) := by decide +kernel
theorem dX12_drawHundred_9 : decode cX12_drawHundred 9 = .ok (.lmul, 1) := by decide +kernel
theorem dX12_drawHundred_10 : decode cX12_drawHundred 10 = .ok (.ldc2_w 336, 3) := by decide +kernel
theorem dX12_drawHundred_13 : decode cX12_drawHundred 13 = .ok (.ladd, 1) := by decide +kernel
theorem dX12_drawHundred_14 : decode cX12_drawHundred 14 = .ok (.ldc2_w 338, 3) := by decide +kernel
theorem dX12_drawHundred_17 : decode cX12_drawHundred 17 = .ok (.land, 1) := by decide +kernel
theorem dX12_drawHundred_18 : decode cX12_drawHundred 18 = .ok (.l2i, 1) := by decide +kernel
theorem dX12_drawHundred_19 : decode cX12_drawHundred 19 = .ok (.putfield 83, 3) := by decide +kernel
theorem dX12_drawHundred_22 : decode cX12_drawHundred 22 = .ok (.aload_n 0, 1) := by decide +kernel
theorem dX12_drawHundred_23 : decode cX12_drawHundred 23 = .ok (.getfield 83, 3) := by decide +kernel
theorem dX12_drawHundred_26 : decode cX12_drawHundred 26 = .ok (.bipush 64, 2) := by decide +kernel
theorem dX12_drawHundred_28 : decode cX12_drawHundred 28 = .ok (.idiv, 1) := by decide +kernel
theorem dX12_drawHundred_29 : decode cX12_drawHundred 29 = .ok (.bipush 100, 2) := by decide +kernel
theorem dX12_drawHundred_31 : decode cX12_drawHundred 31 = .ok (.irem, 1) := by decide +kernel
theorem dX12_drawHundred_32 : decode cX12_drawHundred 32 = .ok (.ireturn, 1) := by decide +kernel
