theorem dX1_forget_0 : decode cX1_forget 0 = .ok (.aload_n 0, 1) := by decide +kernel
theorem dX1_forget_1 : decode cX1_forget 1 = .ok (.iconst 0, 1) := by decide +kernel
theorem dX1_forget_2 : decode cX1_forget 2 = .ok (.putfield 16, 3) := by decide +kernel
theorem dX1_forget_5 : decode cX1_forget 5 = .ok (.return_, 1) := by decide +kernel
theorem dX1_save_0 : decode cX1_save 0 = .ok (.aload_n 0, 1) := by decide +kernel
theorem dX1_save_1 : decode cX1_save 1 = .ok (.getfield 13, 3) := by decide +kernel
theorem dX1_save_4 : decode cX1_save 4 = .ok (.aload_n 0, 1) := by decide +kernel
theorem dX1_save_5 : decode cX1_save 5 = .ok (.getfield 20, 3) := by decide +kernel
theorem dX1_save_8 : decode cX1_save 8 = .ok (.aaload, 1) := by decide +kernel
theorem dX1_save_9 : decode cX1_save 9 = .ok (.astore_n 2, 1) := by decide +kernel
theorem dX1_save_10 : decode cX1_save 10 = .ok (.aload_n 2, 1) := by decide +kernel
theorem dX1_save_11 : decode cX1_save 11 = .ok (.iconst 0, 1) := by decide +kernel
theorem dX1_save_12 : decode cX1_save 12 = .ok (.aload_n 1, 1) := by decide +kernel
theorem dX1_save_13 : decode cX1_save 13 = .ok (.getfield 23, 3) := by decide +kernel
theorem dX1_save_16 : decode cX1_save 16 = .ok (.iastore, 1) := by decide +kernel
theorem dX1_save_17 : decode cX1_save 17 = .ok (.aload_n 2, 1) := by decide +kernel
theorem dX1_save_18 : decode cX1_save 18 = .ok (.iconst 1, 1) := by decide +kernel
theorem dX1_save_19 : decode cX1_save 19 = .ok (.aload_n 1, 1) := by decide +kernel
theorem dX1_save_20 : decode cX1_save 20 = .ok (.getfield 28, 3) := by decide +kernel
theorem dX1_save_23 : decode cX1_save 23 = .ok (.iastore, 1) := by decide +kernel
theorem dX1_save_24 : decode cX1_save 24 = .ok (.aload_n 2, 1) := by decide +kernel
theorem dX1_save_25 : decode cX1_save 25 = .ok (.iconst 2, 1) := by decide +kernel
theorem dX1_save_26 : decode cX1_save 26 = .ok (.aload_n 1, 1) := by decide +kernel
theorem dX1_save_27 : decode cX1_save 27 = .ok (.getfield 31, 3) := by decide +kernel
theorem dX1_save_30 : decode cX1_save 30 = .ok (.iastore, 1) := by decide +kernel
theorem dX1_save_31 : decode cX1_save 31 = .ok (.iconst 0, 1) := by decide +kernel
theorem dX1_save_32 : decode cX1_save 32 = .ok (.istore_n 3, 1) := by decide +kernel
theorem dX1_save_33 : decode cX1_save 33 = .ok (.iload_n 3, 1) := by decide +kernel
theorem dX1_save_34 : decode cX1_save 34 = .ok (.bipush 8, 2) := by decide +kernel
theorem dX1_save_36 : decode cX1_save 36 = .ok (.if_icmp .ge 45, 3) := by decide +kernel
theorem dX1_save_39 : decode cX1_save 39 = .ok (.aload_n 1, 1) := by decide +kernel
theorem dX1_save_40 : decode cX1_save 40 = .ok (.getfield 34, 3) := by decide +kernel
theorem dX1_save_43 : decode cX1_save 43 = .ok (.iload_n 3, 1) := by decide +kernel
theorem dX1_save_44 : decode cX1_save 44 = .ok (.iaload, 1) := by decide +kernel
theorem dX1_save_45 : decode cX1_save 45 = .ok (.iconst 1, 1) := by decide +kernel
theorem dX1_save_46 : decode cX1_save 46 = .ok (.iadd, 1) := by decide +kernel
theorem dX1_save_47 : decode cX1_save 47 = .ok (.istore 4, 2) := by decide +kernel
theorem dX1_save_49 : decode cX1_save 49 = .ok (.aload_n 2, 1) := by decide +kernel
theorem dX1_save_50 : decode cX1_save 50 = .ok (.iconst 3, 1) := by decide +kernel
theorem dX1_save_51 : decode cX1_save 51 = .ok (.iload_n 3, 1) := by decide +kernel
theorem dX1_save_52 : decode cX1_save 52 = .ok (.iadd, 1) := by decide +kernel
theorem dX1_save_53 : decode cX1_save 53 = .ok (.aload_n 1, 1) := by decide +kernel
theorem dX1_save_54 : decode cX1_save 54 = .ok (.getfield 38, 3) := by decide +kernel
theorem dX1_save_57 : decode cX1_save 57 = .ok (.iload_n 3, 1) := by decide +kernel
theorem dX1_save_58 : decode cX1_save 58 = .ok (.iaload, 1) := by decide +kernel
theorem dX1_save_59 : decode cX1_save 59 = .ok (.bipush 12, 2) := by decide +kernel
theorem dX1_save_61 : decode cX1_save 61 = .ok (.ishl, 1) := by decide +kernel
theorem dX1_save_62 : decode cX1_save 62 = .ok (.iload 4, 2) := by decide +kernel
theorem dX1_save_64 : decode cX1_save 64 = .ok (.iconst 4, 1) := by decide +kernel
theorem dX1_save_65 : decode cX1_save 65 = .ok (.ishl, 1) := by decide +kernel
theorem dX1_save_66 : decode cX1_save 66 = .ok (.ior, 1) := by decide +kernel
theorem dX1_save_67 : decode cX1_save 67 = .ok (.aload_n 1, 1) := by decide +kernel
theorem dX1_save_68 : decode cX1_save 68 = .ok (.getfield 41, 3) := by decide +kernel
theorem dX1_save_71 : decode cX1_save 71 = .ok (.iload_n 3, 1) := by decide +kernel
theorem dX1_save_72 : decode cX1_save 72 = .ok (.iaload, 1) := by decide +kernel
theorem dX1_save_73 : decode cX1_save 73 = .ok (.ior, 1) := by decide +kernel
theorem dX1_save_74 : decode cX1_save 74 = .ok (.iastore, 1) := by decide +kernel
theorem dX1_save_75 : decode cX1_save 75 = .ok (.iinc 3 1, 3) := by decide +kernel
theorem dX1_save_78 : decode cX1_save 78 = .ok (.goto (-45), 3) := by decide +kernel
theorem dX1_save_81 : decode cX1_save 81 = .ok (.aload_n 1, 1) := by decide +kernel
theorem dX1_save_82 : decode cX1_save 82 = .ok (.getfield 44, 3) := by decide +kernel
theorem dX1_save_85 : decode cX1_save 85 = .ok (.iconst 0, 1) := by decide +kernel
theorem dX1_save_86 : decode cX1_save 86 = .ok (.aload_n 2, 1) := by decide +kernel
theorem dX1_save_87 : decode cX1_save 87 = .ok (.bipush 11, 2) := by decide +kernel
theorem dX1_save_89 : decode cX1_save 89 = .ok (.bipush 60, 2) := by decide +kernel
theorem dX1_save_91 : decode cX1_save 91 = .ok (.invokestatic 47, 3) := by decide +kernel
theorem dX1_save_94 : decode cX1_save 94 = .ok (.aload_n 0, 1) := by decide +kernel
theorem dX1_save_95 : decode cX1_save 95 = .ok (.aload_n 0, 1) := by decide +kernel
theorem dX1_save_96 : decode cX1_save 96 = .ok (.getfield 20, 3) := by decide +kernel
theorem dX1_save_99 : decode cX1_save 99 = .ok (.iconst 1, 1) := by decide +kernel
theorem dX1_save_100 : decode cX1_save 100 = .ok (.iadd, 1) := by decide +kernel
theorem dX1_save_101 : decode cX1_save 101 = .ok (.bipush 20, 2) := by decide +kernel
theorem dX1_save_103 : decode cX1_save 103 = .ok (.irem, 1) := by decide +kernel
theorem dX1_save_104 : decode cX1_save 104 = .ok (.putfield 20, 3) := by decide +kernel
theorem dX1_save_107 : decode cX1_save 107 = .ok (.aload_n 0, 1) := by decide +kernel
theorem dX1_save_108 : decode cX1_save 108 = .ok (.bipush 20, 2) := by decide +kernel
theorem dX1_save_110 : decode cX1_save 110 = .ok (.aload_n 0, 1) := by decide +kernel
theorem dX1_save_111 : decode cX1_save 111 = .ok (.getfield 16, 3) := by decide +kernel
theorem dX1_save_114 : decode cX1_save 114 = .ok (.iconst 1, 1) := by decide +kernel
theorem dX1_save_115 : decode cX1_save 115 = .ok (.iadd, 1) := by decide +kernel
theorem dX1_save_116 : decode cX1_save 116 = .ok (.invokestatic 53, 3) := by decide +kernel
theorem dX1_save_119 : decode cX1_save 119 = .ok (.putfield 16, 3) := by decide +kernel
theorem dX1_save_122 : decode cX1_save 122 = .ok (.return_, 1) := by decide +kernel
theorem dX1_takeBack_0 : decode cX1_takeBack 0 = .ok (.aload_n 0, 1) := by decide +kernel
theorem dX1_takeBack_1 : decode cX1_takeBack 1 = .ok (.getfield 16, 3) := by decide +kernel
theorem dX1_takeBack_4 : decode cX1_takeBack 4 = .ok (.ifCond .ne 5, 3) := by decide +kernel
theorem dX1_takeBack_7 : decode cX1_takeBack 7 = .ok (.iconst 0, 1) := by decide +kernel
theorem dX1_takeBack_8 : decode cX1_takeBack 8 = .ok (.ireturn, 1) := by decide +kernel
theorem dX1_takeBack_9 : decode cX1_takeBack 9 = .ok (.aload_n 0, 1) := by decide +kernel
theorem dX1_takeBack_10 : decode cX1_takeBack 10 = .ok (.dup, 1) := by decide +kernel
theorem dX1_takeBack_11 : decode cX1_takeBack 11 = .ok (.getfield 16, 3) := by decide +kernel
theorem dX1_takeBack_14 : decode cX1_takeBack 14 = .ok (.iconst 1, 1) := by decide +kernel
theorem dX1_takeBack_15 : decode cX1_takeBack 15 = .ok (.isub, 1) := by decide +kernel
theorem dX1_takeBack_16 : decode cX1_takeBack 16 = .ok (.putfield 16, 3) := by decide +kernel
theorem dX1_takeBack_19 : decode cX1_takeBack 19 = .ok (.aload_n 0, 1) := by decide +kernel
theorem dX1_takeBack_20 : decode cX1_takeBack 20 = .ok (.aload_n 0, 1) := by decide +kernel
theorem dX1_takeBack_21 : decode cX1_takeBack 21 = .ok (.getfield 20, 3) := by decide +kernel
theorem dX1_takeBack_24 : decode cX1_takeBack 24 = .ok (.bipush 20, 2) := by decide +kernel
theorem dX1_takeBack_26 : decode cX1_takeBack 26 = .ok (.iadd, 1) := by decide +kernel
theorem dX1_takeBack_27 : decode cX1_takeBack 27 = .ok (.iconst 1, 1) := by decide +kernel
theorem dX1_takeBack_28 : decode cX1_takeBack 28 = .ok (.isub, 1) := by decide +kernel
theorem dX1_takeBack_29 : decode cX1_takeBack 29 = .ok (.bipush 20, 2) := by decide +kernel
theorem dX1_takeBack_31 : decode cX1_takeBack 31 = .ok (.irem, 1) := by decide +kernel
theorem dX1_takeBack_32 : decode cX1_takeBack 32 = .ok (.putfield 20, 3) := by decide +kernel
theorem dX1_takeBack_35 : decode cX1_takeBack 35 = .ok (.aload_n 0, 1) := by decide +kernel
theorem dX1_takeBack_36 : decode cX1_takeBack 36 = .ok (.getfield 13, 3) := by decide +kernel
theorem dX1_takeBack_39 : decode cX1_takeBack 39 = .ok (.aload_n 0, 1) := by decide +kernel
theorem dX1_takeBack_40 : decode cX1_takeBack 40 = .ok (.getfield 20, 3) := by decide +kernel
theorem dX1_takeBack_43 : decode cX1_takeBack 43 = .ok (.aaload, 1) := by decide +kernel
theorem dX1_takeBack_44 : decode cX1_takeBack 44 = .ok (.astore_n 2, 1) := by decide +kernel
theorem dX1_takeBack_45 : decode cX1_takeBack 45 = .ok (.aload_n 1, 1) := by decide +kernel
theorem dX1_takeBack_46 : decode cX1_takeBack 46 = .ok (.aload_n 2, 1) := by decide +kernel
theorem dX1_takeBack_47 : decode cX1_takeBack 47 = .ok (.iconst 0, 1) := by decide +kernel
theorem dX1_takeBack_48 : decode cX1_takeBack 48 = .ok (.iaload, 1) := by decide +kernel
theorem dX1_takeBack_49 : decode cX1_takeBack 49 = .ok (.putfield 23, 3) := by decide +kernel
theorem dX1_takeBack_52 : decode cX1_takeBack 52 = .ok (.aload_n 1, 1) := by decide +kernel
theorem dX1_takeBack_53 : decode cX1_takeBack 53 = .ok (.aload_n 2, 1) := by decide +kernel
theorem dX1_takeBack_54 : decode cX1_takeBack 54 = .ok (.iconst 1, 1) := by decide +kernel
theorem dX1_takeBack_55 : decode cX1_takeBack 55 = .ok (.iaload, 1) := by decide +kernel
theorem dX1_takeBack_56 : decode cX1_takeBack 56 = .ok (.putfield 28, 3) := by decide +kernel
theorem dX1_takeBack_59 : decode cX1_takeBack 59 = .ok (.aload_n 1, 1) := by decide +kernel
theorem dX1_takeBack_60 : decode cX1_takeBack 60 = .ok (.aload_n 2, 1) := by decide +kernel
theorem dX1_takeBack_61 : decode cX1_takeBack 61 = .ok (.iconst 2, 1) := by decide +kernel
theorem dX1_takeBack_62 : decode cX1_takeBack 62 = .ok (.iaload, 1) := by decide +kernel
theorem dX1_takeBack_63 : decode cX1_takeBack 63 = .ok (.putfield 31, 3) := by decide +kernel
theorem dX1_takeBack_66 : decode cX1_takeBack 66 = .ok (.aload_n 1, 1) := by decide +kernel
theorem dX1_takeBack_67 : decode cX1_takeBack 67 = .ok (.invokevirtual 59, 3) := by decide +kernel
theorem dX1_takeBack_70 : decode cX1_takeBack 70 = .ok (.iconst 0, 1) := by decide +kernel
theorem dX1_takeBack_71 : decode cX1_takeBack 71 = .ok (.istore_n 3, 1) := by decide +kernel
theorem dX1_takeBack_72 : decode cX1_takeBack 72 = .ok (.iload_n 3, 1) := by decide +kernel
theorem dX1_takeBack_73 : decode cX1_takeBack 73 = .ok (.bipush 8, 2) := by decide +kernel
theorem dX1_takeBack_75 : decode cX1_takeBack 75 = .ok (.if_icmp .ge 62, 3) := by decide +kernel
theorem dX1_takeBack_78 : decode cX1_takeBack 78 = .ok (.aload_n 2, 1) := by decide +kernel
theorem dX1_takeBack_79 : decode cX1_takeBack 79 = .ok (.iconst 3, 1) := by decide +kernel
theorem dX1_takeBack_80 : decode cX1_takeBack 80 = .ok (.iload_n 3, 1) := by decide +kernel
theorem dX1_takeBack_81 : decode cX1_takeBack 81 = .ok (.iadd, 1) := by decide +kernel
theorem dX1_takeBack_82 : decode cX1_takeBack 82 = .ok (.iaload, 1) := by decide +kernel
theorem dX1_takeBack_83 : decode cX1_takeBack 83 = .ok (.istore 4, 2) := by decide +kernel
theorem dX1_takeBack_85 : decode cX1_takeBack 85 = .ok (.iload 4, 2) := by decide +kernel
theorem dX1_takeBack_87 : decode cX1_takeBack 87 = .ok (.iconst 4, 1) := by decide +kernel
theorem dX1_takeBack_88 : decode cX1_takeBack 88 = .ok (.ishr, 1) := by decide +kernel
theorem dX1_takeBack_89 : decode cX1_takeBack 89 = .ok (.sipush 255, 3) := by decide +kernel
theorem dX1_takeBack_92 : decode cX1_takeBack 92 = .ok (.iand, 1) := by decide +kernel
theorem dX1_takeBack_93 : decode cX1_takeBack 93 = .ok (.istore 5, 2) := by decide +kernel
theorem dX1_takeBack_95 : decode cX1_takeBack 95 = .ok (.aload_n 1, 1) := by decide +kernel
theorem dX1_takeBack_96 : decode cX1_takeBack 96 = .ok (.getfield 38, 3) := by decide +kernel
theorem dX1_takeBack_99 : decode cX1_takeBack 99 = .ok (.iload_n 3, 1) := by decide +kernel
theorem dX1_takeBack_100 : decode cX1_takeBack 100 = .ok (.iload 4, 2) := by decide +kernel
theorem dX1_takeBack_102 : decode cX1_takeBack 102 = .ok (.bipush 12, 2) := by decide +kernel
theorem dX1_takeBack_104 : decode cX1_takeBack 104 = .ok (.ishr, 1) := by decide +kernel
theorem dX1_takeBack_105 : decode cX1_takeBack 105 = .ok (.iastore, 1) := by decide +kernel
theorem dX1_takeBack_106 : decode cX1_takeBack 106 = .ok (.aload_n 1, 1) := by decide +kernel
theorem dX1_takeBack_107 : decode cX1_takeBack 107 = .ok (.getfield 41, 3) := by decide +kernel
theorem dX1_takeBack_110 : decode cX1_takeBack 110 = .ok (.iload_n 3, 1) := by decide +kernel
theorem dX1_takeBack_111 : decode cX1_takeBack 111 = .ok (.iload 4, 2) := by decide +kernel
theorem dX1_takeBack_113 : decode cX1_takeBack 113 = .ok (.bipush 15, 2) := by decide +kernel
theorem dX1_takeBack_115 : decode cX1_takeBack 115 = .ok (.iand, 1) := by decide +kernel
theorem dX1_takeBack_116 : decode cX1_takeBack 116 = .ok (.iastore, 1) := by decide +kernel
theorem dX1_takeBack_117 : decode cX1_takeBack 117 = .ok (.iload 5, 2) := by decide +kernel
theorem dX1_takeBack_119 : decode cX1_takeBack 119 = .ok (.ifCond .le 12, 3) := by decide +kernel
theorem dX1_takeBack_122 : decode cX1_takeBack 122 = .ok (.aload_n 1, 1) := by decide +kernel
theorem dX1_takeBack_123 : decode cX1_takeBack 123 = .ok (.iload_n 3, 1) := by decide +kernel
theorem dX1_takeBack_124 : decode cX1_takeBack 124 = .ok (.iload 5, 2) := by decide +kernel
theorem dX1_takeBack_126 : decode cX1_takeBack 126 = .ok (.iconst 1, 1) := by decide +kernel
theorem dX1_takeBack_127 : decode cX1_takeBack 127 = .ok (.isub, 1) := by decide +kernel
theorem dX1_takeBack_128 : decode cX1_takeBack 128 = .ok (.invokevirtual 62, 3) := by decide +kernel
theorem dX1_takeBack_131 : decode cX1_takeBack 131 = .ok (.iinc 3 1, 3) := by decide +kernel
theorem dX1_takeBack_134 : decode cX1_takeBack 134 = .ok (.goto (-62), 3) := by decide +kernel
theorem dX1_takeBack_137 : decode cX1_takeBack 137 = .ok (.aload_n 2, 1) := by decide +kernel
theorem dX1_takeBack_138 : decode cX1_takeBack 138 = .ok (.bipush 11, 2) := by decide +kernel
theorem dX1_takeBack_140 : decode cX1_takeBack 140 = .ok (.aload_n 1, 1) := by decide +kernel
theorem dX1_takeBack_141 : decode cX1_takeBack 141 = .ok (.getfield 44, 3) := by decide +kernel
theorem dX1_takeBack_144 : decode cX1_takeBack 144 = .ok (.iconst 0, 1) := by decide +kernel
theorem dX1_takeBack_145 : decode cX1_takeBack 145 = .ok (.bipush 60, 2) := by decide +kernel
theorem dX1_takeBack_147 : decode cX1_takeBack 147 = .ok (.invokestatic 47, 3) := by decide +kernel
theorem dX1_takeBack_150 : decode cX1_takeBack 150 = .ok (.iconst 1, 1) := by decide +kernel
theorem dX1_takeBack_151 : decode cX1_takeBack 151 = .ok (.ireturn, 1) := by decide +kernel
theorem dX2_add_0 : decode cX2_add 0 = .ok (.aload_n 0, 1) := by decide +kernel
theorem dX2_add_1 : decode cX2_add 1 = .ok (.getfield 18, 3) := by decide +kernel
theorem dX2_add_4 : decode cX2_add 4 = .ok (.aload_n 0, 1) := by decide +kernel
theorem dX2_add_5 : decode cX2_add 5 = .ok (.getfield 9, 3) := by decide +kernel
theorem dX2_add_8 : decode cX2_add 8 = .ok (.arraylength, 1) := by decide +kernel
theorem dX2_add_9 : decode cX2_add 9 = .ok (.if_icmp .ge 23, 3) := by decide +kernel
theorem dX2_add_12 : decode cX2_add 12 = .ok (.aload_n 0, 1) := by decide +kernel
theorem dX2_add_13 : decode cX2_add 13 = .ok (.getfield 9, 3) := by decide +kernel
theorem dX2_add_16 : decode cX2_add 16 = .ok (.aload_n 0, 1) := by decide +kernel
theorem dX2_add_17 : decode cX2_add 17 = .ok (.getfield 18, 3) := by decide +kernel
theorem dX2_add_20 : decode cX2_add 20 = .ok (.iload_n 1, 1) := by decide +kernel
theorem dX2_add_21 : decode cX2_add 21 = .ok (.iastore, 1) := by decide +kernel
theorem dX2_add_22 : decode cX2_add 22 = .ok (.aload_n 0, 1) := by decide +kernel
theorem dX2_add_23 : decode cX2_add 23 = .ok (.dup, 1) := by decide +kernel
theorem dX2_add_24 : decode cX2_add 24 = .ok (.getfield 18, 3) := by decide +kernel
theorem dX2_add_27 : decode cX2_add 27 = .ok (.iconst 1, 1) := by decide +kernel
theorem dX2_add_28 : decode cX2_add 28 = .ok (.iadd, 1) := by decide +kernel
theorem dX2_add_29 : decode cX2_add 29 = .ok (.putfield 18, 3) := by decide +kernel
theorem dX2_add_32 : decode cX2_add 32 = .ok (.return_, 1) := by decide +kernel
theorem dX2_value_0 : decode cX2_value 0 = .ok (.iconst 0, 1) := by decide +kernel
theorem dX2_value_1 : decode cX2_value 1 = .ok (.istore_n 2, 1) := by decide +kernel
theorem dX2_value_2 : decode cX2_value 2 = .ok (.iconst 0, 1) := by decide +kernel
theorem dX2_value_3 : decode cX2_value 3 = .ok (.istore_n 3, 1) := by decide +kernel
theorem dX2_value_4 : decode cX2_value 4 = .ok (.iload_n 3, 1) := by decide +kernel
theorem dX2_value_5 : decode cX2_value 5 = .ok (.aload_n 0, 1) := by decide +kernel
theorem dX2_value_6 : decode cX2_value 6 = .ok (.getfield 18, 3) := by decide +kernel
theorem dX2_value_9 : decode cX2_value 9 = .ok (.if_icmp .ge 226, 3) := by decide +kernel
theorem dX2_value_12 : decode cX2_value 12 = .ok (.aload_n 0, 1) := by decide +kernel
theorem dX2_value_13 : decode cX2_value 13 = .ok (.getfield 9, 3) := by decide +kernel
theorem dX2_value_16 : decode cX2_value 16 = .ok (.iload_n 3, 1) := by decide +kernel
theorem dX2_value_17 : decode cX2_value 17 = .ok (.iaload, 1) := by decide +kernel
theorem dX2_value_18 : decode cX2_value 18 = .ok (.istore 4, 2) := by decide +kernel
theorem dX2_value_20 : decode cX2_value 20 = .ok (.iload_n 2, 1) := by decide +kernel
theorem dX2_value_21 : decode cX2_value 21 = .ok (.iload 4, 2) := by decide +kernel
theorem dX2_value_23 : decode cX2_value 23 = .ok (.invokestatic 22, 3) := by decide +kernel
theorem dX2_value_26 : decode cX2_value 26 = .ok (.isub, 1) := by decide +kernel
theorem dX2_value_27 : decode cX2_value 27 = .ok (.istore 5, 2) := by decide +kernel
theorem dX2_value_29 : decode cX2_value 29 = .ok (.iload 5, 2) := by decide +kernel
theorem dX2_value_31 : decode cX2_value 31 = .ok (.ifCond .lt 10, 3) := by decide +kernel
theorem dX2_value_34 : decode cX2_value 34 = .ok (.iload 5, 2) := by decide +kernel
theorem dX2_value_36 : decode cX2_value 36 = .ok (.bipush 96, 2) := by decide +kernel
theorem dX2_value_38 : decode cX2_value 38 = .ok (.if_icmp .lt 5, 3) := by decide +kernel
theorem dX2_value_41 : decode cX2_value 41 = .ok (.iconst 0, 1) := by decide +kernel
theorem dX2_value_42 : decode cX2_value 42 = .ok (.ireturn, 1) := by decide +kernel
theorem dX2_value_43 : decode cX2_value 43 = .ok (.iload 4, 2) := by decide +kernel
theorem dX2_value_45 : decode cX2_value 45 = .ok (.bipush 40, 2) := by decide +kernel
theorem dX2_value_47 : decode cX2_value 47 = .ok (.if_icmp .lt 18, 3) := by decide +kernel
theorem dX2_value_50 : decode cX2_value 50 = .ok (.aload_n 0, 1) := by decide +kernel
theorem dX2_value_51 : decode cX2_value 51 = .ok (.getfield 15, 3) := by decide +kernel
theorem dX2_value_54 : decode cX2_value 54 = .ok (.iload 5, 2) := by decide +kernel
theorem dX2_value_56 : decode cX2_value 56 = .ok (.iload 4, 2) := by decide +kernel
theorem dX2_value_58 : decode cX2_value 58 = .ok (.bipush 40, 2) := by decide +kernel
theorem dX2_value_60 : decode cX2_value 60 = .ok (.isub, 1) := by decide +kernel
theorem dX2_value_61 : decode cX2_value 61 = .ok (.iastore, 1) := by decide +kernel
theorem dX2_value_62 : decode cX2_value 62 = .ok (.goto 162, 3) := by decide +kernel
theorem dX2_value_65 : decode cX2_value 65 = .ok (.iload 4, 2) := by decide +kernel
theorem dX2_value_67 : decode cX2_value 67 = .ok (.bipush 20, 2) := by decide +kernel
theorem dX2_value_69 : decode cX2_value 69 = .ok (.if_icmp .lt 34, 3) := by decide +kernel
theorem dX2_value_72 : decode cX2_value 72 = .ok (.aload_n 0, 1) := by decide +kernel
theorem dX2_value_73 : decode cX2_value 73 = .ok (.getfield 15, 3) := by decide +kernel
theorem dX2_value_76 : decode cX2_value 76 = .ok (.iload 5, 2) := by decide +kernel
theorem dX2_value_78 : decode cX2_value 78 = .ok (.iload 4, 2) := by decide +kernel
theorem dX2_value_80 : decode cX2_value 80 = .ok (.bipush 20, 2) := by decide +kernel
theorem dX2_value_82 : decode cX2_value 82 = .ok (.isub, 1) := by decide +kernel
theorem dX2_value_83 : decode cX2_value 83 = .ok (.aload_n 1, 1) := by decide +kernel
theorem dX2_value_84 : decode cX2_value 84 = .ok (.arraylength, 1) := by decide +kernel
theorem dX2_value_85 : decode cX2_value 85 = .ok (.if_icmp .ge 13, 3) := by decide +kernel
theorem dX2_value_88 : decode cX2_value 88 = .ok (.aload_n 1, 1) := by decide +kernel
theorem dX2_value_89 : decode cX2_value 89 = .ok (.iload 4, 2) := by decide +kernel
theorem dX2_value_91 : decode cX2_value 91 = .ok (.bipush 20, 2) := by decide +kernel
theorem dX2_value_93 : decode cX2_value 93 = .ok (.isub, 1) := by decide +kernel
theorem dX2_value_94 : decode cX2_value 94 = .ok (.iaload, 1) := by decide +kernel
theorem dX2_value_95 : decode cX2_value 95 = .ok (.goto 4, 3) := by decide +kernel
theorem dX2_value_98 : decode cX2_value 98 = .ok (.iconst 0, 1) := by decide +kernel
theorem dX2_value_99 : decode cX2_value 99 = .ok (.iastore, 1) := by decide +kernel
theorem dX2_value_100 : decode cX2_value 100 = .ok (.goto 124, 3) := by decide +kernel
theorem dX2_value_103 : decode cX2_value 103 = .ok (.iload 4, 2) := by decide +kernel
theorem dX2_value_105 : decode cX2_value 105 = .ok (.bipush 14, 2) := by decide +kernel
theorem dX2_value_107 : decode cX2_value 107 = .ok (.if_icmp .ne 44, 3) := by decide +kernel
theorem dX2_value_110 : decode cX2_value 110 = .ok (.aload_n 0, 1) := by decide +kernel
theorem dX2_value_111 : decode cX2_value 111 = .ok (.getfield 15, 3) := by decide +kernel
theorem dX2_value_114 : decode cX2_value 114 = .ok (.iload 5, 2) := by decide +kernel
theorem dX2_value_116 : decode cX2_value 116 = .ok (.aload_n 0, 1) := by decide +kernel
theorem dX2_value_117 : decode cX2_value 117 = .ok (.getfield 15, 3) := by decide +kernel
theorem dX2_value_120 : decode cX2_value 120 = .ok (.iload 5, 2) := by decide +kernel
theorem dX2_value_122 : decode cX2_value 122 = .ok (.iaload, 1) := by decide +kernel
theorem dX2_value_123 : decode cX2_value 123 = .ok (.ifCond .eq 15, 3) := by decide +kernel
theorem dX2_value_126 : decode cX2_value 126 = .ok (.aload_n 0, 1) := by decide +kernel
theorem dX2_value_127 : decode cX2_value 127 = .ok (.getfield 15, 3) := by decide +kernel
theorem dX2_value_130 : decode cX2_value 130 = .ok (.iload 5, 2) := by decide +kernel
theorem dX2_value_132 : decode cX2_value 132 = .ok (.iconst 1, 1) := by decide +kernel
theorem dX2_value_133 : decode cX2_value 133 = .ok (.iadd, 1) := by decide +kernel
theorem dX2_value_134 : decode cX2_value 134 = .ok (.iaload, 1) := by decide +kernel
theorem dX2_value_135 : decode cX2_value 135 = .ok (.goto 12, 3) := by decide +kernel
theorem dX2_value_138 : decode cX2_value 138 = .ok (.aload_n 0, 1) := by decide +kernel
theorem dX2_value_139 : decode cX2_value 139 = .ok (.getfield 15, 3) := by decide +kernel
theorem dX2_value_142 : decode cX2_value 142 = .ok (.iload 5, 2) := by decide +kernel
theorem dX2_value_144 : decode cX2_value 144 = .ok (.iconst 2, 1) := by decide +kernel
theorem dX2_value_145 : decode cX2_value 145 = .ok (.iadd, 1) := by decide +kernel
theorem dX2_value_146 : decode cX2_value 146 = .ok (.iaload, 1) := by decide +kernel
theorem dX2_value_147 : decode cX2_value 147 = .ok (.iastore, 1) := by decide +kernel
theorem dX2_value_148 : decode cX2_value 148 = .ok (.goto 76, 3) := by decide +kernel
theorem dX2_value_151 : decode cX2_value 151 = .ok (.iload 4, 2) := by decide +kernel
theorem dX2_value_153 : decode cX2_value 153 = .ok (.bipush 13, 2) := by decide +kernel
theorem dX2_value_155 : decode cX2_value 155 = .ok (.if_icmp .ne 22, 3) := by decide +kernel
theorem dX2_value_158 : decode cX2_value 158 = .ok (.aload_n 0, 1) := by decide +kernel
theorem dX2_value_159 : decode cX2_value 159 = .ok (.getfield 15, 3) := by decide +kernel
theorem dX2_value_162 : decode cX2_value 162 = .ok (.iload 5, 2) := by decide +kernel
theorem dX2_value_164 : decode cX2_value 164 = .ok (.iconst 1, 1) := by decide +kernel
theorem dX2_value_165 : decode cX2_value 165 = .ok (.aload_n 0, 1) := by decide +kernel
theorem dX2_value_166 : decode cX2_value 166 = .ok (.getfield 15, 3) := by decide +kernel
theorem dX2_value_169 : decode cX2_value 169 = .ok (.iload 5, 2) := by decide +kernel
theorem dX2_value_171 : decode cX2_value 171 = .ok (.iaload, 1) := by decide +kernel
theorem dX2_value_172 : decode cX2_value 172 = .ok (.isub, 1) := by decide +kernel
theorem dX2_value_173 : decode cX2_value 173 = .ok (.iastore, 1) := by decide +kernel
theorem dX2_value_174 : decode cX2_value 174 = .ok (.goto 50, 3) := by decide +kernel
theorem dX2_value_177 : decode cX2_value 177 = .ok (.iload 4, 2) := by decide +kernel
theorem dX2_value_179 : decode cX2_value 179 = .ok (.aload_n 0, 1) := by decide +kernel
theorem dX2_value_180 : decode cX2_value 180 = .ok (.getfield 15, 3) := by decide +kernel
theorem dX2_value_183 : decode cX2_value 183 = .ok (.iload 5, 2) := by decide +kernel
theorem dX2_value_185 : decode cX2_value 185 = .ok (.iaload, 1) := by decide +kernel
theorem dX2_value_186 : decode cX2_value 186 = .ok (.i2l, 1) := by decide +kernel
theorem dX2_value_187 : decode cX2_value 187 = .ok (.aload_n 0, 1) := by decide +kernel
theorem dX2_value_188 : decode cX2_value 188 = .ok (.getfield 15, 3) := by decide +kernel
theorem dX2_value_191 : decode cX2_value 191 = .ok (.iload 5, 2) := by decide +kernel
theorem dX2_value_193 : decode cX2_value 193 = .ok (.iconst 1, 1) := by decide +kernel
theorem dX2_value_194 : decode cX2_value 194 = .ok (.iadd, 1) := by decide +kernel
theorem dX2_value_195 : decode cX2_value 195 = .ok (.iaload, 1) := by decide +kernel
theorem dX2_value_196 : decode cX2_value 196 = .ok (.i2l, 1) := by decide +kernel
theorem dX2_value_197 : decode cX2_value 197 = .ok (.invokestatic 26, 3) := by decide +kernel
theorem dX2_value_200 : decode cX2_value 200 = .ok (.lstore 6, 2) := by decide +kernel
theorem dX2_value_202 : decode cX2_value 202 = .ok (.aload_n 0, 1) := by decide +kernel
theorem dX2_value_203 : decode cX2_value 203 = .ok (.getfield 15, 3) := by decide +kernel
theorem dX2_value_206 : decode cX2_value 206 = .ok (.iload 5, 2) := by decide +kernel
theorem dX2_value_208 : decode cX2_value 208 = .ok (.ldc2_w 30, 3) := by decide +kernel
theorem dX2_value_211 : decode cX2_value 211 = .ok (.ldc2_w 32, 3) := by decide +kernel
theorem dX2_value_214 : decode cX2_value 214 = .ok (.lload 6, 2) := by decide +kernel
theorem dX2_value_216 : decode cX2_value 216 = .ok (.invokestatic 34, 3) := by decide +kernel
theorem dX2_value_219 : decode cX2_value 219 = .ok (.invokestatic 40, 3) := by decide +kernel
theorem dX2_value_222 : decode cX2_value 222 = .ok (.l2i, 1) := by decide +kernel
theorem dX2_value_223 : decode cX2_value 223 = .ok (.iastore, 1) := by decide +kernel
theorem dX2_value_224 : decode cX2_value 224 = .ok (.iload 5, 2) := by decide +kernel
theorem dX2_value_226 : decode cX2_value 226 = .ok (.iconst 1, 1) := by decide +kernel
theorem dX2_value_227 : decode cX2_value 227 = .ok (.iadd, 1) := by decide +kernel
theorem dX2_value_228 : decode cX2_value 228 = .ok (.istore_n 2, 1) := by decide +kernel
theorem dX2_value_229 : decode cX2_value 229 = .ok (.iinc 3 1, 3) := by decide +kernel
theorem dX2_value_232 : decode cX2_value 232 = .ok (.goto (-228), 3) := by decide +kernel
theorem dX2_value_235 : decode cX2_value 235 = .ok (.iload_n 2, 1) := by decide +kernel
theorem dX2_value_236 : decode cX2_value 236 = .ok (.ifCond .le 12, 3) := by decide +kernel
theorem dX2_value_239 : decode cX2_value 239 = .ok (.aload_n 0, 1) := by decide +kernel
theorem dX2_value_240 : decode cX2_value 240 = .ok (.getfield 15, 3) := by decide +kernel
theorem dX2_value_243 : decode cX2_value 243 = .ok (.iconst 0, 1) := by decide +kernel
theorem dX2_value_244 : decode cX2_value 244 = .ok (.iaload, 1) := by decide +kernel
theorem dX2_value_245 : decode cX2_value 245 = .ok (.goto 4, 3) := by decide +kernel
theorem dX2_value_248 : decode cX2_value 248 = .ok (.iconst 0, 1) := by decide +kernel
theorem dX2_value_249 : decode cX2_value 249 = .ok (.ireturn, 1) := by decide +kernel
theorem dX2_partsOf_0 : decode cX2_partsOf 0 = .ok (.iload_n 0, 1) := by decide +kernel
theorem dX2_partsOf_1 : decode cX2_partsOf 1 = .ok (.bipush 20, 2) := by decide +kernel
theorem dX2_partsOf_3 : decode cX2_partsOf 3 = .ok (.if_icmp .lt 5, 3) := by decide +kernel
theorem dX2_partsOf_6 : decode cX2_partsOf 6 = .ok (.iconst 0, 1) := by decide +kernel
theorem dX2_partsOf_7 : decode cX2_partsOf 7 = .ok (.ireturn, 1) := by decide +kernel
theorem dX2_partsOf_8 : decode cX2_partsOf 8 = .ok (.iload_n 0, 1) := by decide +kernel
theorem dX2_partsOf_9 : decode cX2_partsOf 9 = .ok (.bipush 13, 2) := by decide +kernel
theorem dX2_partsOf_11 : decode cX2_partsOf 11 = .ok (.if_icmp .ne 7, 3) := by decide +kernel
theorem dX2_partsOf_14 : decode cX2_partsOf 14 = .ok (.iconst 1, 1) := by decide +kernel
theorem dX2_partsOf_15 : decode cX2_partsOf 15 = .ok (.goto 14, 3) := by decide +kernel
theorem dX2_partsOf_18 : decode cX2_partsOf 18 = .ok (.iload_n 0, 1) := by decide +kernel
theorem dX2_partsOf_19 : decode cX2_partsOf 19 = .ok (.bipush 14, 2) := by decide +kernel
theorem dX2_partsOf_21 : decode cX2_partsOf 21 = .ok (.if_icmp .ne 7, 3) := by decide +kernel
theorem dX2_partsOf_24 : decode cX2_partsOf 24 = .ok (.iconst 3, 1) := by decide +kernel
theorem dX2_partsOf_25 : decode cX2_partsOf 25 = .ok (.goto 4, 3) := by decide +kernel
theorem dX2_partsOf_28 : decode cX2_partsOf 28 = .ok (.iconst 2, 1) := by decide +kernel
theorem dX2_partsOf_29 : decode cX2_partsOf 29 = .ok (.ireturn, 1) := by decide +kernel
theorem dX2_pair_0 : decode cX2_pair 0 = .ok (.iload_n 0, 1) := by decide +kernel
theorem dX2_pair_1 : decode cX2_pair 1 = .ok (.tableswitch 155 1 11 #[59, 63, 67, 71, 87, 103, 109, 115, 127, 139, 151], 59) := by decide +kernel
theorem dX2_pair_60 : decode cX2_pair 60 = .ok (.lload_n 1, 1) := by decide +kernel
theorem dX2_pair_61 : decode cX2_pair 61 = .ok (.lload_n 3, 1) := by decide +kernel
theorem dX2_pair_62 : decode cX2_pair 62 = .ok (.ladd, 1) := by decide +kernel
theorem dX2_pair_63 : decode cX2_pair 63 = .ok (.lreturn, 1) := by decide +kernel
theorem dX2_pair_64 : decode cX2_pair 64 = .ok (.lload_n 1, 1) := by decide +kernel
theorem dX2_pair_65 : decode cX2_pair 65 = .ok (.lload_n 3, 1) := by decide +kernel
theorem dX2_pair_66 : decode cX2_pair 66 = .ok (.lsub, 1) := by decide +kernel
theorem dX2_pair_67 : decode cX2_pair 67 = .ok (.lreturn, 1) := by decide +kernel
theorem dX2_pair_68 : decode cX2_pair 68 = .ok (.lload_n 1, 1) := by decide +kernel
theorem dX2_pair_69 : decode cX2_pair 69 = .ok (.lload_n 3, 1) := by decide +kernel
theorem dX2_pair_70 : decode cX2_pair 70 = .ok (.lmul, 1) := by decide +kernel
theorem dX2_pair_71 : decode cX2_pair 71 = .ok (.lreturn, 1) := by decide +kernel
theorem dX2_pair_72 : decode cX2_pair 72 = .ok (.lload_n 3, 1) := by decide +kernel
theorem dX2_pair_73 : decode cX2_pair 73 = .ok (.lconst 0, 1) := by decide +kernel
theorem dX2_pair_74 : decode cX2_pair 74 = .ok (.lcmp, 1) := by decide +kernel
theorem dX2_pair_75 : decode cX2_pair 75 = .ok (.ifCond .ne 7, 3) := by decide +kernel
theorem dX2_pair_78 : decode cX2_pair 78 = .ok (.lconst 0, 1) := by decide +kernel
theorem dX2_pair_79 : decode cX2_pair 79 = .ok (.goto 8, 3) := by decide +kernel
theorem dX2_pair_82 : decode cX2_pair 82 = .ok (.lload_n 1, 1) := by decide +kernel
theorem dX2_pair_83 : decode cX2_pair 83 = .ok (.lload_n 3, 1) := by decide +kernel
theorem dX2_pair_84 : decode cX2_pair 84 = .ok (.invokestatic 43, 3) := by decide +kernel
theorem dX2_pair_87 : decode cX2_pair 87 = .ok (.lreturn, 1) := by decide +kernel
theorem dX2_pair_88 : decode cX2_pair 88 = .ok (.lload_n 3, 1) := by decide +kernel
theorem dX2_pair_89 : decode cX2_pair 89 = .ok (.lconst 0, 1) := by decide +kernel
theorem dX2_pair_90 : decode cX2_pair 90 = .ok (.lcmp, 1) := by decide +kernel
theorem dX2_pair_91 : decode cX2_pair 91 = .ok (.ifCond .ne 7, 3) := by decide +kernel
theorem dX2_pair_94 : decode cX2_pair 94 = .ok (.lconst 0, 1) := by decide +kernel
theorem dX2_pair_95 : decode cX2_pair 95 = .ok (.goto 8, 3) := by decide +kernel
theorem dX2_pair_98 : decode cX2_pair 98 = .ok (.lload_n 1, 1) := by decide +kernel
theorem dX2_pair_99 : decode cX2_pair 99 = .ok (.lload_n 3, 1) := by decide +kernel
theorem dX2_pair_100 : decode cX2_pair 100 = .ok (.invokestatic 46, 3) := by decide +kernel
theorem dX2_pair_103 : decode cX2_pair 103 = .ok (.lreturn, 1) := by decide +kernel
theorem dX2_pair_104 : decode cX2_pair 104 = .ok (.lload_n 1, 1) := by decide +kernel
theorem dX2_pair_105 : decode cX2_pair 105 = .ok (.lload_n 3, 1) := by decide +kernel
theorem dX2_pair_106 : decode cX2_pair 106 = .ok (.invokestatic 34, 3) := by decide +kernel
theorem dX2_pair_109 : decode cX2_pair 109 = .ok (.lreturn, 1) := by decide +kernel
theorem dX2_pair_110 : decode cX2_pair 110 = .ok (.lload_n 1, 1) := by decide +kernel
theorem dX2_pair_111 : decode cX2_pair 111 = .ok (.lload_n 3, 1) := by decide +kernel
theorem dX2_pair_112 : decode cX2_pair 112 = .ok (.invokestatic 40, 3) := by decide +kernel
theorem dX2_pair_115 : decode cX2_pair 115 = .ok (.lreturn, 1) := by decide +kernel
theorem dX2_pair_116 : decode cX2_pair 116 = .ok (.lload_n 1, 1) := by decide +kernel
theorem dX2_pair_117 : decode cX2_pair 117 = .ok (.lload_n 3, 1) := by decide +kernel
theorem dX2_pair_118 : decode cX2_pair 118 = .ok (.lcmp, 1) := by decide +kernel
theorem dX2_pair_119 : decode cX2_pair 119 = .ok (.ifCond .ge 7, 3) := by decide +kernel
theorem dX2_pair_122 : decode cX2_pair 122 = .ok (.lconst 1, 1) := by decide +kernel
theorem dX2_pair_123 : decode cX2_pair 123 = .ok (.goto 4, 3) := by decide +kernel
theorem dX2_pair_126 : decode cX2_pair 126 = .ok (.lconst 0, 1) := by decide +kernel
theorem dX2_pair_127 : decode cX2_pair 127 = .ok (.lreturn, 1) := by decide +kernel
theorem dX2_pair_128 : decode cX2_pair 128 = .ok (.lload_n 1, 1) := by decide +kernel
theorem dX2_pair_129 : decode cX2_pair 129 = .ok (.lload_n 3, 1) := by decide +kernel
theorem dX2_pair_130 : decode cX2_pair 130 = .ok (.lcmp, 1) := by decide +kernel
theorem dX2_pair_131 : decode cX2_pair 131 = .ok (.ifCond .le 7, 3) := by decide +kernel
theorem dX2_pair_134 : decode cX2_pair 134 = .ok (.lconst 1, 1) := by decide +kernel
theorem dX2_pair_135 : decode cX2_pair 135 = .ok (.goto 4, 3) := by decide +kernel
theorem dX2_pair_138 : decode cX2_pair 138 = .ok (.lconst 0, 1) := by decide +kernel
theorem dX2_pair_139 : decode cX2_pair 139 = .ok (.lreturn, 1) := by decide +kernel
theorem dX2_pair_140 : decode cX2_pair 140 = .ok (.lload_n 1, 1) := by decide +kernel
theorem dX2_pair_141 : decode cX2_pair 141 = .ok (.lload_n 3, 1) := by decide +kernel
theorem dX2_pair_142 : decode cX2_pair 142 = .ok (.lcmp, 1) := by decide +kernel
theorem dX2_pair_143 : decode cX2_pair 143 = .ok (.ifCond .ne 7, 3) := by decide +kernel
theorem dX2_pair_146 : decode cX2_pair 146 = .ok (.lconst 1, 1) := by decide +kernel
theorem dX2_pair_147 : decode cX2_pair 147 = .ok (.goto 4, 3) := by decide +kernel
theorem dX2_pair_150 : decode cX2_pair 150 = .ok (.lconst 0, 1) := by decide +kernel
theorem dX2_pair_151 : decode cX2_pair 151 = .ok (.lreturn, 1) := by decide +kernel
theorem dX2_pair_152 : decode cX2_pair 152 = .ok (.lload_n 1, 1) := by decide +kernel
theorem dX2_pair_153 : decode cX2_pair 153 = .ok (.lload_n 3, 1) := by decide +kernel
theorem dX2_pair_154 : decode cX2_pair 154 = .ok (.land, 1) := by decide +kernel
theorem dX2_pair_155 : decode cX2_pair 155 = .ok (.lreturn, 1) := by decide +kernel
theorem dX2_pair_156 : decode cX2_pair 156 = .ok (.lload_n 1, 1) := by decide +kernel
theorem dX2_pair_157 : decode cX2_pair 157 = .ok (.lload_n 3, 1) := by decide +kernel
theorem dX2_pair_158 : decode cX2_pair 158 = .ok (.lor, 1) := by decide +kernel
theorem dX2_pair_159 : decode cX2_pair 159 = .ok (.lreturn, 1) := by decide +kernel
theorem dX3_write_0 : decode cX3_write 0 = .ok (.aload_n 0, 1) := by decide +kernel
theorem dX3_write_1 : decode cX3_write 1 = .ok (.iconst 0, 1) := by decide +kernel
theorem dX3_write_2 : decode cX3_write 2 = .ok (.putfield 15, 3) := by decide +kernel
theorem dX3_write_5 : decode cX3_write 5 = .ok (.aload_n 0, 1) := by decide +kernel
theorem dX3_write_6 : decode cX3_write 6 = .ok (.aload_n 1, 1) := by decide +kernel
theorem dX3_write_7 : decode cX3_write 7 = .ok (.getfield 19, 3) := by decide +kernel
theorem dX3_write_10 : decode cX3_write 10 = .ok (.invokevirtual 24, 3) := by decide +kernel
theorem dX3_write_13 : decode cX3_write 13 = .ok (.iconst 0, 1) := by decide +kernel
theorem dX3_write_14 : decode cX3_write 14 = .ok (.istore_n 2, 1) := by decide +kernel
theorem dX3_write_15 : decode cX3_write 15 = .ok (.iload_n 2, 1) := by decide +kernel
theorem dX3_write_16 : decode cX3_write 16 = .ok (.aload_n 1, 1) := by decide +kernel
theorem dX3_write_17 : decode cX3_write 17 = .ok (.getfield 28, 3) := by decide +kernel
theorem dX3_write_20 : decode cX3_write 20 = .ok (.invokevirtual 32, 3) := by decide +kernel
theorem dX3_write_23 : decode cX3_write 23 = .ok (.if_icmp .ge 101, 3) := by decide +kernel
theorem dX3_write_26 : decode cX3_write 26 = .ok (.aload_n 1, 1) := by decide +kernel
theorem dX3_write_27 : decode cX3_write 27 = .ok (.getfield 38, 3) := by decide +kernel
theorem dX3_write_30 : decode cX3_write 30 = .ok (.iload_n 2, 1) := by decide +kernel
theorem dX3_write_31 : decode cX3_write 31 = .ok (.iaload, 1) := by decide +kernel
theorem dX3_write_32 : decode cX3_write 32 = .ok (.istore_n 3, 1) := by decide +kernel
theorem dX3_write_33 : decode cX3_write 33 = .ok (.iload_n 3, 1) := by decide +kernel
theorem dX3_write_34 : decode cX3_write 34 = .ok (.iconst (-1), 1) := by decide +kernel
theorem dX3_write_35 : decode cX3_write 35 = .ok (.if_icmp .eq 7, 3) := by decide +kernel
theorem dX3_write_38 : decode cX3_write 38 = .ok (.iconst 1, 1) := by decide +kernel
theorem dX3_write_39 : decode cX3_write 39 = .ok (.goto 4, 3) := by decide +kernel
theorem dX3_write_42 : decode cX3_write 42 = .ok (.iconst 0, 1) := by decide +kernel
theorem dX3_write_43 : decode cX3_write 43 = .ok (.istore 4, 2) := by decide +kernel
theorem dX3_write_45 : decode cX3_write 45 = .ok (.aload_n 0, 1) := by decide +kernel
theorem dX3_write_46 : decode cX3_write 46 = .ok (.aload_n 1, 1) := by decide +kernel
theorem dX3_write_47 : decode cX3_write 47 = .ok (.getfield 41, 3) := by decide +kernel
theorem dX3_write_50 : decode cX3_write 50 = .ok (.iload_n 2, 1) := by decide +kernel
theorem dX3_write_51 : decode cX3_write 51 = .ok (.iaload, 1) := by decide +kernel
theorem dX3_write_52 : decode cX3_write 52 = .ok (.invokevirtual 44, 3) := by decide +kernel
theorem dX3_write_55 : decode cX3_write 55 = .ok (.aload_n 0, 1) := by decide +kernel
theorem dX3_write_56 : decode cX3_write 56 = .ok (.aload_n 1, 1) := by decide +kernel
theorem dX3_write_57 : decode cX3_write 57 = .ok (.getfield 47, 3) := by decide +kernel
theorem dX3_write_60 : decode cX3_write 60 = .ok (.iload_n 2, 1) := by decide +kernel
theorem dX3_write_61 : decode cX3_write 61 = .ok (.iaload, 1) := by decide +kernel
theorem dX3_write_62 : decode cX3_write 62 = .ok (.invokevirtual 24, 3) := by decide +kernel
theorem dX3_write_65 : decode cX3_write 65 = .ok (.aload_n 0, 1) := by decide +kernel
theorem dX3_write_66 : decode cX3_write 66 = .ok (.iload 4, 2) := by decide +kernel
theorem dX3_write_68 : decode cX3_write 68 = .ok (.ifCond .eq 12, 3) := by decide +kernel
theorem dX3_write_71 : decode cX3_write 71 = .ok (.iload_n 3, 1) := by decide +kernel
theorem dX3_write_72 : decode cX3_write 72 = .ok (.invokestatic 50, 3) := by decide +kernel
theorem dX3_write_75 : decode cX3_write 75 = .ok (.iconst 1, 1) := by decide +kernel
theorem dX3_write_76 : decode cX3_write 76 = .ok (.iadd, 1) := by decide +kernel
theorem dX3_write_77 : decode cX3_write 77 = .ok (.goto 4, 3) := by decide +kernel
theorem dX3_write_80 : decode cX3_write 80 = .ok (.iconst 0, 1) := by decide +kernel
theorem dX3_write_81 : decode cX3_write 81 = .ok (.invokevirtual 44, 3) := by decide +kernel
theorem dX3_write_84 : decode cX3_write 84 = .ok (.aload_n 0, 1) := by decide +kernel
theorem dX3_write_85 : decode cX3_write 85 = .ok (.iload 4, 2) := by decide +kernel
theorem dX3_write_87 : decode cX3_write 87 = .ok (.ifCond .eq 11, 3) := by decide +kernel
theorem dX3_write_90 : decode cX3_write 90 = .ok (.iload_n 3, 1) := by decide +kernel
theorem dX3_write_91 : decode cX3_write 91 = .ok (.iconst 4, 1) := by decide +kernel
theorem dX3_write_92 : decode cX3_write 92 = .ok (.idiv, 1) := by decide +kernel
theorem dX3_write_93 : decode cX3_write 93 = .ok (.iconst 4, 1) := by decide +kernel
theorem dX3_write_94 : decode cX3_write 94 = .ok (.irem, 1) := by decide +kernel
theorem dX3_write_95 : decode cX3_write 95 = .ok (.goto 4, 3) := by decide +kernel
theorem dX3_write_98 : decode cX3_write 98 = .ok (.iconst 0, 1) := by decide +kernel
theorem dX3_write_99 : decode cX3_write 99 = .ok (.invokevirtual 44, 3) := by decide +kernel
theorem dX3_write_102 : decode cX3_write 102 = .ok (.aload_n 0, 1) := by decide +kernel
theorem dX3_write_103 : decode cX3_write 103 = .ok (.iload 4, 2) := by decide +kernel
theorem dX3_write_105 : decode cX3_write 105 = .ok (.ifCond .eq 9, 3) := by decide +kernel
theorem dX3_write_108 : decode cX3_write 108 = .ok (.iload_n 3, 1) := by decide +kernel
theorem dX3_write_109 : decode cX3_write 109 = .ok (.iconst 4, 1) := by decide +kernel
theorem dX3_write_110 : decode cX3_write 110 = .ok (.irem, 1) := by decide +kernel
theorem dX3_write_111 : decode cX3_write 111 = .ok (.goto 4, 3) := by decide +kernel
theorem dX3_write_114 : decode cX3_write 114 = .ok (.iconst 0, 1) := by decide +kernel
theorem dX3_write_115 : decode cX3_write 115 = .ok (.invokevirtual 44, 3) := by decide +kernel
theorem dX3_write_118 : decode cX3_write 118 = .ok (.iinc 2 1, 3) := by decide +kernel
theorem dX3_write_121 : decode cX3_write 121 = .ok (.goto (-106), 3) := by decide +kernel
theorem dX3_write_124 : decode cX3_write 124 = .ok (.iconst 0, 1) := by decide +kernel
theorem dX3_write_125 : decode cX3_write 125 = .ok (.istore_n 2, 1) := by decide +kernel
theorem dX3_write_126 : decode cX3_write 126 = .ok (.iload_n 2, 1) := by decide +kernel
theorem dX3_write_127 : decode cX3_write 127 = .ok (.aload_n 1, 1) := by decide +kernel
theorem dX3_write_128 : decode cX3_write 128 = .ok (.getfield 28, 3) := by decide +kernel
theorem dX3_write_131 : decode cX3_write 131 = .ok (.getfield 54, 3) := by decide +kernel
theorem dX3_write_134 : decode cX3_write 134 = .ok (.if_icmp .ge 21, 3) := by decide +kernel
theorem dX3_write_137 : decode cX3_write 137 = .ok (.aload_n 0, 1) := by decide +kernel
theorem dX3_write_138 : decode cX3_write 138 = .ok (.aload_n 1, 1) := by decide +kernel
theorem dX3_write_139 : decode cX3_write 139 = .ok (.getfield 57, 3) := by decide +kernel
theorem dX3_write_142 : decode cX3_write 142 = .ok (.iload_n 2, 1) := by decide +kernel
theorem dX3_write_143 : decode cX3_write 143 = .ok (.ishr, 1) := by decide +kernel
theorem dX3_write_144 : decode cX3_write 144 = .ok (.iconst 1, 1) := by decide +kernel
theorem dX3_write_145 : decode cX3_write 145 = .ok (.iand, 1) := by decide +kernel
theorem dX3_write_146 : decode cX3_write 146 = .ok (.invokevirtual 44, 3) := by decide +kernel
theorem dX3_write_149 : decode cX3_write 149 = .ok (.iinc 2 1, 3) := by decide +kernel
theorem dX3_write_152 : decode cX3_write 152 = .ok (.goto (-26), 3) := by decide +kernel
theorem dX3_write_155 : decode cX3_write 155 = .ok (.sipush 167, 3) := by decide +kernel
theorem dX3_write_158 : decode cX3_write 158 = .ok (.istore_n 2, 1) := by decide +kernel
theorem dX3_write_159 : decode cX3_write 159 = .ok (.iconst 0, 1) := by decide +kernel
theorem dX3_write_160 : decode cX3_write 160 = .ok (.istore_n 3, 1) := by decide +kernel
theorem dX3_write_161 : decode cX3_write 161 = .ok (.iload_n 3, 1) := by decide +kernel
theorem dX3_write_162 : decode cX3_write 162 = .ok (.aload_n 0, 1) := by decide +kernel
theorem dX3_write_163 : decode cX3_write 163 = .ok (.getfield 15, 3) := by decide +kernel
theorem dX3_write_166 : decode cX3_write 166 = .ok (.if_icmp .ge 20, 3) := by decide +kernel
theorem dX3_write_169 : decode cX3_write 169 = .ok (.iload_n 2, 1) := by decide +kernel
theorem dX3_write_170 : decode cX3_write 170 = .ok (.aload_n 0, 1) := by decide +kernel
theorem dX3_write_171 : decode cX3_write 171 = .ok (.getfield 11, 3) := by decide +kernel
theorem dX3_write_174 : decode cX3_write 174 = .ok (.iload_n 3, 1) := by decide +kernel
theorem dX3_write_175 : decode cX3_write 175 = .ok (.iaload, 1) := by decide +kernel
theorem dX3_write_176 : decode cX3_write 176 = .ok (.invokestatic 60, 3) := by decide +kernel
theorem dX3_write_179 : decode cX3_write 179 = .ok (.istore_n 2, 1) := by decide +kernel
theorem dX3_write_180 : decode cX3_write 180 = .ok (.iinc 3 1, 3) := by decide +kernel
theorem dX3_write_183 : decode cX3_write 183 = .ok (.goto (-22), 3) := by decide +kernel
theorem dX3_write_186 : decode cX3_write 186 = .ok (.aload_n 0, 1) := by decide +kernel
theorem dX3_write_187 : decode cX3_write 187 = .ok (.iload_n 2, 1) := by decide +kernel
theorem dX3_write_188 : decode cX3_write 188 = .ok (.invokevirtual 44, 3) := by decide +kernel
theorem dX3_write_191 : decode cX3_write 191 = .ok (.return_, 1) := by decide +kernel
theorem dX3_add_0 : decode cX3_add 0 = .ok (.aload_n 0, 1) := by decide +kernel
theorem dX3_add_1 : decode cX3_add 1 = .ok (.getfield 15, 3) := by decide +kernel
theorem dX3_add_4 : decode cX3_add 4 = .ok (.aload_n 0, 1) := by decide +kernel
theorem dX3_add_5 : decode cX3_add 5 = .ok (.getfield 11, 3) := by decide +kernel
theorem dX3_add_8 : decode cX3_add 8 = .ok (.arraylength, 1) := by decide +kernel
theorem dX3_add_9 : decode cX3_add 9 = .ok (.if_icmp .ge 23, 3) := by decide +kernel
theorem dX3_add_12 : decode cX3_add 12 = .ok (.aload_n 0, 1) := by decide +kernel
theorem dX3_add_13 : decode cX3_add 13 = .ok (.getfield 11, 3) := by decide +kernel
theorem dX3_add_16 : decode cX3_add 16 = .ok (.aload_n 0, 1) := by decide +kernel
theorem dX3_add_17 : decode cX3_add 17 = .ok (.getfield 15, 3) := by decide +kernel
theorem dX3_add_20 : decode cX3_add 20 = .ok (.iload_n 1, 1) := by decide +kernel
theorem dX3_add_21 : decode cX3_add 21 = .ok (.iastore, 1) := by decide +kernel
theorem dX3_add_22 : decode cX3_add 22 = .ok (.aload_n 0, 1) := by decide +kernel
theorem dX3_add_23 : decode cX3_add 23 = .ok (.dup, 1) := by decide +kernel
theorem dX3_add_24 : decode cX3_add 24 = .ok (.getfield 15, 3) := by decide +kernel
theorem dX3_add_27 : decode cX3_add 27 = .ok (.iconst 1, 1) := by decide +kernel
theorem dX3_add_28 : decode cX3_add 28 = .ok (.iadd, 1) := by decide +kernel
theorem dX3_add_29 : decode cX3_add 29 = .ok (.putfield 15, 3) := by decide +kernel
theorem dX3_add_32 : decode cX3_add 32 = .ok (.return_, 1) := by decide +kernel
theorem dX3_addPair_0 : decode cX3_addPair 0 = .ok (.aload_n 0, 1) := by decide +kernel
theorem dX3_addPair_1 : decode cX3_addPair 1 = .ok (.iload_n 1, 1) := by decide +kernel
theorem dX3_addPair_2 : decode cX3_addPair 2 = .ok (.sipush 256, 3) := by decide +kernel
theorem dX3_addPair_5 : decode cX3_addPair 5 = .ok (.idiv, 1) := by decide +kernel
theorem dX3_addPair_6 : decode cX3_addPair 6 = .ok (.invokevirtual 44, 3) := by decide +kernel
theorem dX3_addPair_9 : decode cX3_addPair 9 = .ok (.aload_n 0, 1) := by decide +kernel
theorem dX3_addPair_10 : decode cX3_addPair 10 = .ok (.iload_n 1, 1) := by decide +kernel
theorem dX3_addPair_11 : decode cX3_addPair 11 = .ok (.sipush 256, 3) := by decide +kernel
theorem dX3_addPair_14 : decode cX3_addPair 14 = .ok (.irem, 1) := by decide +kernel
theorem dX3_addPair_15 : decode cX3_addPair 15 = .ok (.invokevirtual 44, 3) := by decide +kernel
theorem dX3_addPair_18 : decode cX3_addPair 18 = .ok (.return_, 1) := by decide +kernel
theorem dX3_sumWith_0 : decode cX3_sumWith 0 = .ok (.iconst 5, 1) := by decide +kernel
theorem dX3_sumWith_1 : decode cX3_sumWith 1 = .ok (.iload_n 0, 1) := by decide +kernel
theorem dX3_sumWith_2 : decode cX3_sumWith 2 = .ok (.imul, 1) := by decide +kernel
theorem dX3_sumWith_3 : decode cX3_sumWith 3 = .ok (.iload_n 1, 1) := by decide +kernel
theorem dX3_sumWith_4 : decode cX3_sumWith 4 = .ok (.iadd, 1) := by decide +kernel
theorem dX3_sumWith_5 : decode cX3_sumWith 5 = .ok (.sipush 251, 3) := by decide +kernel
theorem dX3_sumWith_8 : decode cX3_sumWith 8 = .ok (.irem, 1) := by decide +kernel
theorem dX3_sumWith_9 : decode cX3_sumWith 9 = .ok (.ireturn, 1) := by decide +kernel
theorem dX3_read_0 : decode cX3_read 0 = .ok (.iconst 2, 1) := by decide +kernel
theorem dX3_read_1 : decode cX3_read 1 = .ok (.bipush 6, 2) := by decide +kernel
theorem dX3_read_3 : decode cX3_read 3 = .ok (.aload_n 1, 1) := by decide +kernel
theorem dX3_read_4 : decode cX3_read 4 = .ok (.invokevirtual 32, 3) := by decide +kernel
theorem dX3_read_7 : decode cX3_read 7 = .ok (.imul, 1) := by decide +kernel
theorem dX3_read_8 : decode cX3_read 8 = .ok (.iadd, 1) := by decide +kernel
theorem dX3_read_9 : decode cX3_read 9 = .ok (.istore_n 3, 1) := by decide +kernel
theorem dX3_read_10 : decode cX3_read 10 = .ok (.aload_n 0, 1) := by decide +kernel
theorem dX3_read_11 : decode cX3_read 11 = .ok (.getfield 64, 3) := by decide +kernel
theorem dX3_read_14 : decode cX3_read 14 = .ok (.iload_n 3, 1) := by decide +kernel
theorem dX3_read_15 : decode cX3_read 15 = .ok (.aload_n 1, 1) := by decide +kernel
theorem dX3_read_16 : decode cX3_read 16 = .ok (.getfield 54, 3) := by decide +kernel
theorem dX3_read_19 : decode cX3_read 19 = .ok (.iadd, 1) := by decide +kernel
theorem dX3_read_20 : decode cX3_read 20 = .ok (.iconst 1, 1) := by decide +kernel
theorem dX3_read_21 : decode cX3_read 21 = .ok (.iadd, 1) := by decide +kernel
theorem dX3_read_22 : decode cX3_read 22 = .ok (.if_icmp .ne 10, 3) := by decide +kernel
theorem dX3_read_25 : decode cX3_read 25 = .ok (.aload_n 0, 1) := by decide +kernel
theorem dX3_read_26 : decode cX3_read 26 = .ok (.invokestatic 67, 3) := by decide +kernel
theorem dX3_read_29 : decode cX3_read 29 = .ok (.ifCond .ne 5, 3) := by decide +kernel
theorem dX3_read_32 : decode cX3_read 32 = .ok (.iconst 0, 1) := by decide +kernel
theorem dX3_read_33 : decode cX3_read 33 = .ok (.ireturn, 1) := by decide +kernel
theorem dX3_read_34 : decode cX3_read 34 = .ok (.aload_n 2, 1) := by decide +kernel
theorem dX3_read_35 : decode cX3_read 35 = .ok (.aload_n 1, 1) := by decide +kernel
theorem dX3_read_36 : decode cX3_read 36 = .ok (.invokevirtual 71, 3) := by decide +kernel
theorem dX3_read_39 : decode cX3_read 39 = .ok (.aload_n 2, 1) := by decide +kernel
theorem dX3_read_40 : decode cX3_read 40 = .ok (.aload_n 0, 1) := by decide +kernel
theorem dX3_read_41 : decode cX3_read 41 = .ok (.iconst 0, 1) := by decide +kernel
theorem dX3_read_42 : decode cX3_read 42 = .ok (.invokevirtual 75, 3) := by decide +kernel
theorem dX3_read_45 : decode cX3_read 45 = .ok (.putfield 19, 3) := by decide +kernel
theorem dX3_read_48 : decode cX3_read 48 = .ok (.aload_n 2, 1) := by decide +kernel
theorem dX3_read_49 : decode cX3_read 49 = .ok (.getfield 19, 3) := by decide +kernel
theorem dX3_read_52 : decode cX3_read 52 = .ok (.sipush 999, 3) := by decide +kernel
theorem dX3_read_55 : decode cX3_read 55 = .ok (.if_icmp .gt 7, 3) := by decide +kernel
theorem dX3_read_58 : decode cX3_read 58 = .ok (.iconst 1, 1) := by decide +kernel
theorem dX3_read_59 : decode cX3_read 59 = .ok (.goto 4, 3) := by decide +kernel
theorem dX3_read_62 : decode cX3_read 62 = .ok (.iconst 0, 1) := by decide +kernel
theorem dX3_read_63 : decode cX3_read 63 = .ok (.istore 4, 2) := by decide +kernel
theorem dX3_read_65 : decode cX3_read 65 = .ok (.iconst 0, 1) := by decide +kernel
theorem dX3_read_66 : decode cX3_read 66 = .ok (.istore 5, 2) := by decide +kernel
theorem dX3_read_68 : decode cX3_read 68 = .ok (.iload 5, 2) := by decide +kernel
theorem dX3_read_70 : decode cX3_read 70 = .ok (.aload_n 1, 1) := by decide +kernel
theorem dX3_read_71 : decode cX3_read 71 = .ok (.invokevirtual 32, 3) := by decide +kernel
theorem dX3_read_74 : decode cX3_read 74 = .ok (.if_icmp .ge 23, 3) := by decide +kernel
theorem dX3_read_77 : decode cX3_read 77 = .ok (.iload 4, 2) := by decide +kernel
theorem dX3_read_79 : decode cX3_read 79 = .ok (.ifCond .eq 18, 3) := by decide +kernel
theorem dX3_read_82 : decode cX3_read 82 = .ok (.aload_n 0, 1) := by decide +kernel
theorem dX3_read_83 : decode cX3_read 83 = .ok (.iload 5, 2) := by decide +kernel
theorem dX3_read_85 : decode cX3_read 85 = .ok (.aload_n 2, 1) := by decide +kernel
theorem dX3_read_86 : decode cX3_read 86 = .ok (.invokestatic 78, 3) := by decide +kernel
theorem dX3_read_89 : decode cX3_read 89 = .ok (.istore 4, 2) := by decide +kernel
theorem dX3_read_91 : decode cX3_read 91 = .ok (.iinc 5 1, 3) := by decide +kernel
theorem dX3_read_94 : decode cX3_read 94 = .ok (.goto (-26), 3) := by decide +kernel
theorem dX3_read_97 : decode cX3_read 97 = .ok (.iconst 0, 1) := by decide +kernel
theorem dX3_read_98 : decode cX3_read 98 = .ok (.istore 5, 2) := by decide +kernel
theorem dX3_read_100 : decode cX3_read 100 = .ok (.iload 5, 2) := by decide +kernel
theorem dX3_read_102 : decode cX3_read 102 = .ok (.aload_n 1, 1) := by decide +kernel
theorem dX3_read_103 : decode cX3_read 103 = .ok (.getfield 54, 3) := by decide +kernel
theorem dX3_read_106 : decode cX3_read 106 = .ok (.if_icmp .ge 58, 3) := by decide +kernel
theorem dX3_read_109 : decode cX3_read 109 = .ok (.aload_n 0, 1) := by decide +kernel
theorem dX3_read_110 : decode cX3_read 110 = .ok (.iload_n 3, 1) := by decide +kernel
theorem dX3_read_111 : decode cX3_read 111 = .ok (.iload 5, 2) := by decide +kernel
theorem dX3_read_113 : decode cX3_read 113 = .ok (.iadd, 1) := by decide +kernel
theorem dX3_read_114 : decode cX3_read 114 = .ok (.invokevirtual 82, 3) := by decide +kernel
theorem dX3_read_117 : decode cX3_read 117 = .ok (.istore 6, 2) := by decide +kernel
theorem dX3_read_119 : decode cX3_read 119 = .ok (.iload 4, 2) := by decide +kernel
theorem dX3_read_121 : decode cX3_read 121 = .ok (.iload 6, 2) := by decide +kernel
theorem dX3_read_123 : decode cX3_read 123 = .ok (.iconst 1, 1) := by decide +kernel
theorem dX3_read_124 : decode cX3_read 124 = .ok (.if_icmp .gt 7, 3) := by decide +kernel
theorem dX3_read_127 : decode cX3_read 127 = .ok (.iconst 1, 1) := by decide +kernel
theorem dX3_read_128 : decode cX3_read 128 = .ok (.goto 4, 3) := by decide +kernel
theorem dX3_read_131 : decode cX3_read 131 = .ok (.iconst 0, 1) := by decide +kernel
theorem dX3_read_132 : decode cX3_read 132 = .ok (.iand, 1) := by decide +kernel
theorem dX3_read_133 : decode cX3_read 133 = .ok (.istore 4, 2) := by decide +kernel
theorem dX3_read_135 : decode cX3_read 135 = .ok (.aload_n 2, 1) := by decide +kernel
theorem dX3_read_136 : decode cX3_read 136 = .ok (.dup, 1) := by decide +kernel
theorem dX3_read_137 : decode cX3_read 137 = .ok (.getfield 57, 3) := by decide +kernel
theorem dX3_read_140 : decode cX3_read 140 = .ok (.iload 6, 2) := by decide +kernel
theorem dX3_read_142 : decode cX3_read 142 = .ok (.iconst 1, 1) := by decide +kernel
theorem dX3_read_143 : decode cX3_read 143 = .ok (.if_icmp .ne 10, 3) := by decide +kernel
theorem dX3_read_146 : decode cX3_read 146 = .ok (.iconst 1, 1) := by decide +kernel
theorem dX3_read_147 : decode cX3_read 147 = .ok (.iload 5, 2) := by decide +kernel
theorem dX3_read_149 : decode cX3_read 149 = .ok (.ishl, 1) := by decide +kernel
theorem dX3_read_150 : decode cX3_read 150 = .ok (.goto 4, 3) := by decide +kernel
theorem dX3_read_153 : decode cX3_read 153 = .ok (.iconst 0, 1) := by decide +kernel
theorem dX3_read_154 : decode cX3_read 154 = .ok (.ior, 1) := by decide +kernel
theorem dX3_read_155 : decode cX3_read 155 = .ok (.putfield 57, 3) := by decide +kernel
theorem dX3_read_158 : decode cX3_read 158 = .ok (.iinc 5 1, 3) := by decide +kernel
theorem dX3_read_161 : decode cX3_read 161 = .ok (.goto (-61), 3) := by decide +kernel
theorem dX3_read_164 : decode cX3_read 164 = .ok (.iload 4, 2) := by decide +kernel
theorem dX3_read_166 : decode cX3_read 166 = .ok (.ifCond .eq 14, 3) := by decide +kernel
theorem dX3_read_169 : decode cX3_read 169 = .ok (.aload_n 2, 1) := by decide +kernel
theorem dX3_read_170 : decode cX3_read 170 = .ok (.invokestatic 85, 3) := by decide +kernel
theorem dX3_read_173 : decode cX3_read 173 = .ok (.ifCond .eq 7, 3) := by decide +kernel
theorem dX3_read_176 : decode cX3_read 176 = .ok (.iconst 1, 1) := by decide +kernel
theorem dX3_read_177 : decode cX3_read 177 = .ok (.goto 4, 3) := by decide +kernel
theorem dX3_read_180 : decode cX3_read 180 = .ok (.iconst 0, 1) := by decide +kernel
theorem dX3_read_181 : decode cX3_read 181 = .ok (.ireturn, 1) := by decide +kernel
theorem dX3_sumFits_0 : decode cX3_sumFits 0 = .ok (.sipush 167, 3) := by decide +kernel
theorem dX3_sumFits_3 : decode cX3_sumFits 3 = .ok (.istore_n 1, 1) := by decide +kernel
theorem dX3_sumFits_4 : decode cX3_sumFits 4 = .ok (.iconst 0, 1) := by decide +kernel
theorem dX3_sumFits_5 : decode cX3_sumFits 5 = .ok (.istore_n 2, 1) := by decide +kernel
theorem dX3_sumFits_6 : decode cX3_sumFits 6 = .ok (.iload_n 2, 1) := by decide +kernel
theorem dX3_sumFits_7 : decode cX3_sumFits 7 = .ok (.aload_n 0, 1) := by decide +kernel
theorem dX3_sumFits_8 : decode cX3_sumFits 8 = .ok (.getfield 64, 3) := by decide +kernel
theorem dX3_sumFits_11 : decode cX3_sumFits 11 = .ok (.iconst 1, 1) := by decide +kernel
theorem dX3_sumFits_12 : decode cX3_sumFits 12 = .ok (.isub, 1) := by decide +kernel
theorem dX3_sumFits_13 : decode cX3_sumFits 13 = .ok (.if_icmp .ge 19, 3) := by decide +kernel
theorem dX3_sumFits_16 : decode cX3_sumFits 16 = .ok (.iload_n 1, 1) := by decide +kernel
theorem dX3_sumFits_17 : decode cX3_sumFits 17 = .ok (.aload_n 0, 1) := by decide +kernel
theorem dX3_sumFits_18 : decode cX3_sumFits 18 = .ok (.iload_n 2, 1) := by decide +kernel
theorem dX3_sumFits_19 : decode cX3_sumFits 19 = .ok (.invokevirtual 82, 3) := by decide +kernel
theorem dX3_sumFits_22 : decode cX3_sumFits 22 = .ok (.invokestatic 60, 3) := by decide +kernel
theorem dX3_sumFits_25 : decode cX3_sumFits 25 = .ok (.istore_n 1, 1) := by decide +kernel
theorem dX3_sumFits_26 : decode cX3_sumFits 26 = .ok (.iinc 2 1, 3) := by decide +kernel
theorem dX3_sumFits_29 : decode cX3_sumFits 29 = .ok (.goto (-23), 3) := by decide +kernel
theorem dX3_sumFits_32 : decode cX3_sumFits 32 = .ok (.aload_n 0, 1) := by decide +kernel
theorem dX3_sumFits_33 : decode cX3_sumFits 33 = .ok (.aload_n 0, 1) := by decide +kernel
theorem dX3_sumFits_34 : decode cX3_sumFits 34 = .ok (.getfield 64, 3) := by decide +kernel
theorem dX3_sumFits_37 : decode cX3_sumFits 37 = .ok (.iconst 1, 1) := by decide +kernel
theorem dX3_sumFits_38 : decode cX3_sumFits 38 = .ok (.isub, 1) := by decide +kernel
theorem dX3_sumFits_39 : decode cX3_sumFits 39 = .ok (.invokevirtual 82, 3) := by decide +kernel
theorem dX3_sumFits_42 : decode cX3_sumFits 42 = .ok (.iload_n 1, 1) := by decide +kernel
theorem dX3_sumFits_43 : decode cX3_sumFits 43 = .ok (.if_icmp .ne 7, 3) := by decide +kernel
theorem dX3_sumFits_46 : decode cX3_sumFits 46 = .ok (.iconst 1, 1) := by decide +kernel
theorem dX3_sumFits_47 : decode cX3_sumFits 47 = .ok (.goto 4, 3) := by decide +kernel
theorem dX3_sumFits_50 : decode cX3_sumFits 50 = .ok (.iconst 0, 1) := by decide +kernel
theorem dX3_sumFits_51 : decode cX3_sumFits 51 = .ok (.ireturn, 1) := by decide +kernel
theorem dX3_readStone_0 : decode cX3_readStone 0 = .ok (.iconst 2, 1) := by decide +kernel
theorem dX3_readStone_1 : decode cX3_readStone 1 = .ok (.bipush 6, 2) := by decide +kernel
theorem dX3_readStone_3 : decode cX3_readStone 3 = .ok (.iload_n 1, 1) := by decide +kernel
theorem dX3_readStone_4 : decode cX3_readStone 4 = .ok (.imul, 1) := by decide +kernel
theorem dX3_readStone_5 : decode cX3_readStone 5 = .ok (.iadd, 1) := by decide +kernel
theorem dX3_readStone_6 : decode cX3_readStone 6 = .ok (.istore_n 3, 1) := by decide +kernel
theorem dX3_readStone_7 : decode cX3_readStone 7 = .ok (.aload_n 2, 1) := by decide +kernel
theorem dX3_readStone_8 : decode cX3_readStone 8 = .ok (.getfield 28, 3) := by decide +kernel
theorem dX3_readStone_11 : decode cX3_readStone 11 = .ok (.astore 4, 2) := by decide +kernel
theorem dX3_readStone_13 : decode cX3_readStone 13 = .ok (.aload_n 0, 1) := by decide +kernel
theorem dX3_readStone_14 : decode cX3_readStone 14 = .ok (.iload_n 3, 1) := by decide +kernel
theorem dX3_readStone_15 : decode cX3_readStone 15 = .ok (.invokevirtual 82, 3) := by decide +kernel
theorem dX3_readStone_18 : decode cX3_readStone 18 = .ok (.istore 5, 2) := by decide +kernel
theorem dX3_readStone_20 : decode cX3_readStone 20 = .ok (.aload_n 0, 1) := by decide +kernel
theorem dX3_readStone_21 : decode cX3_readStone 21 = .ok (.iload_n 3, 1) := by decide +kernel
theorem dX3_readStone_22 : decode cX3_readStone 22 = .ok (.iconst 1, 1) := by decide +kernel
theorem dX3_readStone_23 : decode cX3_readStone 23 = .ok (.iadd, 1) := by decide +kernel
theorem dX3_readStone_24 : decode cX3_readStone 24 = .ok (.invokevirtual 75, 3) := by decide +kernel
theorem dX3_readStone_27 : decode cX3_readStone 27 = .ok (.istore 6, 2) := by decide +kernel
theorem dX3_readStone_29 : decode cX3_readStone 29 = .ok (.aload_n 0, 1) := by decide +kernel
theorem dX3_readStone_30 : decode cX3_readStone 30 = .ok (.iload_n 3, 1) := by decide +kernel
theorem dX3_readStone_31 : decode cX3_readStone 31 = .ok (.iconst 3, 1) := by decide +kernel
theorem dX3_readStone_32 : decode cX3_readStone 32 = .ok (.iadd, 1) := by decide +kernel
theorem dX3_readStone_33 : decode cX3_readStone 33 = .ok (.invokevirtual 82, 3) := by decide +kernel
theorem dX3_readStone_36 : decode cX3_readStone 36 = .ok (.iconst 1, 1) := by decide +kernel
theorem dX3_readStone_37 : decode cX3_readStone 37 = .ok (.isub, 1) := by decide +kernel
theorem dX3_readStone_38 : decode cX3_readStone 38 = .ok (.istore 7, 2) := by decide +kernel
theorem dX3_readStone_40 : decode cX3_readStone 40 = .ok (.aload_n 0, 1) := by decide +kernel
theorem dX3_readStone_41 : decode cX3_readStone 41 = .ok (.iload_n 3, 1) := by decide +kernel
theorem dX3_readStone_42 : decode cX3_readStone 42 = .ok (.iconst 4, 1) := by decide +kernel
theorem dX3_readStone_43 : decode cX3_readStone 43 = .ok (.iadd, 1) := by decide +kernel
theorem dX3_readStone_44 : decode cX3_readStone 44 = .ok (.invokevirtual 82, 3) := by decide +kernel
theorem dX3_readStone_47 : decode cX3_readStone 47 = .ok (.istore 8, 2) := by decide +kernel
theorem dX3_readStone_49 : decode cX3_readStone 49 = .ok (.aload_n 0, 1) := by decide +kernel
theorem dX3_readStone_50 : decode cX3_readStone 50 = .ok (.iload_n 3, 1) := by decide +kernel
theorem dX3_readStone_51 : decode cX3_readStone 51 = .ok (.iconst 5, 1) := by decide +kernel
theorem dX3_readStone_52 : decode cX3_readStone 52 = .ok (.iadd, 1) := by decide +kernel
theorem dX3_readStone_53 : decode cX3_readStone 53 = .ok (.invokevirtual 82, 3) := by decide +kernel
theorem dX3_readStone_56 : decode cX3_readStone 56 = .ok (.istore 9, 2) := by decide +kernel
theorem dX3_readStone_58 : decode cX3_readStone 58 = .ok (.iload 5, 2) := by decide +kernel
theorem dX3_readStone_60 : decode cX3_readStone 60 = .ok (.aload 4, 2) := by decide +kernel
theorem dX3_readStone_62 : decode cX3_readStone 62 = .ok (.invokevirtual 89, 3) := by decide +kernel
theorem dX3_readStone_65 : decode cX3_readStone 65 = .ok (.if_icmp .ge 11, 3) := by decide +kernel
theorem dX3_readStone_68 : decode cX3_readStone 68 = .ok (.iload 6, 2) := by decide +kernel
theorem dX3_readStone_70 : decode cX3_readStone 70 = .ok (.sipush 999, 3) := by decide +kernel
theorem dX3_readStone_73 : decode cX3_readStone 73 = .ok (.if_icmp .le 5, 3) := by decide +kernel
theorem dX3_readStone_76 : decode cX3_readStone 76 = .ok (.iconst 0, 1) := by decide +kernel
theorem dX3_readStone_77 : decode cX3_readStone 77 = .ok (.ireturn, 1) := by decide +kernel
theorem dX3_readStone_78 : decode cX3_readStone 78 = .ok (.aload_n 2, 1) := by decide +kernel
theorem dX3_readStone_79 : decode cX3_readStone 79 = .ok (.getfield 41, 3) := by decide +kernel
theorem dX3_readStone_82 : decode cX3_readStone 82 = .ok (.iload_n 1, 1) := by decide +kernel
theorem dX3_readStone_83 : decode cX3_readStone 83 = .ok (.iload 5, 2) := by decide +kernel
theorem dX3_readStone_85 : decode cX3_readStone 85 = .ok (.iastore, 1) := by decide +kernel
theorem dX3_readStone_86 : decode cX3_readStone 86 = .ok (.aload_n 2, 1) := by decide +kernel
theorem dX3_readStone_87 : decode cX3_readStone 87 = .ok (.getfield 47, 3) := by decide +kernel
theorem dX3_readStone_90 : decode cX3_readStone 90 = .ok (.iload_n 1, 1) := by decide +kernel
theorem dX3_readStone_91 : decode cX3_readStone 91 = .ok (.iload 6, 2) := by decide +kernel
theorem dX3_readStone_93 : decode cX3_readStone 93 = .ok (.iastore, 1) := by decide +kernel
theorem dX3_readStone_94 : decode cX3_readStone 94 = .ok (.iload 7, 2) := by decide +kernel
theorem dX3_readStone_96 : decode cX3_readStone 96 = .ok (.iconst (-1), 1) := by decide +kernel
theorem dX3_readStone_97 : decode cX3_readStone 97 = .ok (.if_icmp .ne 19, 3) := by decide +kernel
theorem dX3_readStone_100 : decode cX3_readStone 100 = .ok (.iload 8, 2) := by decide +kernel
theorem dX3_readStone_102 : decode cX3_readStone 102 = .ok (.ifCond .ne 12, 3) := by decide +kernel
theorem dX3_readStone_105 : decode cX3_readStone 105 = .ok (.iload 9, 2) := by decide +kernel
theorem dX3_readStone_107 : decode cX3_readStone 107 = .ok (.ifCond .ne 7, 3) := by decide +kernel
theorem dX3_readStone_110 : decode cX3_readStone 110 = .ok (.iconst 1, 1) := by decide +kernel
theorem dX3_readStone_111 : decode cX3_readStone 111 = .ok (.goto 4, 3) := by decide +kernel
theorem dX3_readStone_114 : decode cX3_readStone 114 = .ok (.iconst 0, 1) := by decide +kernel
theorem dX3_readStone_115 : decode cX3_readStone 115 = .ok (.ireturn, 1) := by decide +kernel
theorem dX3_readStone_116 : decode cX3_readStone 116 = .ok (.iload 7, 2) := by decide +kernel
theorem dX3_readStone_118 : decode cX3_readStone 118 = .ok (.aload 4, 2) := by decide +kernel
theorem dX3_readStone_120 : decode cX3_readStone 120 = .ok (.invokevirtual 92, 3) := by decide +kernel
theorem dX3_readStone_123 : decode cX3_readStone 123 = .ok (.if_icmp .ge 11, 3) := by decide +kernel
theorem dX3_readStone_126 : decode cX3_readStone 126 = .ok (.aload_n 2, 1) := by decide +kernel
theorem dX3_readStone_127 : decode cX3_readStone 127 = .ok (.iload_n 1, 1) := by decide +kernel
theorem dX3_readStone_128 : decode cX3_readStone 128 = .ok (.invokevirtual 95, 3) := by decide +kernel
theorem dX3_readStone_131 : decode cX3_readStone 131 = .ok (.ifCond .ne 5, 3) := by decide +kernel
theorem dX3_readStone_134 : decode cX3_readStone 134 = .ok (.iconst 0, 1) := by decide +kernel
theorem dX3_readStone_135 : decode cX3_readStone 135 = .ok (.ireturn, 1) := by decide +kernel
theorem dX3_readStone_136 : decode cX3_readStone 136 = .ok (.iload 8, 2) := by decide +kernel
theorem dX3_readStone_138 : decode cX3_readStone 138 = .ok (.aload 4, 2) := by decide +kernel
theorem dX3_readStone_140 : decode cX3_readStone 140 = .ok (.getfield 99, 3) := by decide +kernel
theorem dX3_readStone_143 : decode cX3_readStone 143 = .ok (.iload 7, 2) := by decide +kernel
theorem dX3_readStone_145 : decode cX3_readStone 145 = .ok (.iaload, 1) := by decide +kernel
theorem dX3_readStone_146 : decode cX3_readStone 146 = .ok (.if_icmp .ge 16, 3) := by decide +kernel
theorem dX3_readStone_149 : decode cX3_readStone 149 = .ok (.iload 9, 2) := by decide +kernel
theorem dX3_readStone_151 : decode cX3_readStone 151 = .ok (.aload 4, 2) := by decide +kernel
theorem dX3_readStone_153 : decode cX3_readStone 153 = .ok (.getfield 102, 3) := by decide +kernel
theorem dX3_readStone_156 : decode cX3_readStone 156 = .ok (.iload 7, 2) := by decide +kernel
theorem dX3_readStone_158 : decode cX3_readStone 158 = .ok (.iaload, 1) := by decide +kernel
theorem dX3_readStone_159 : decode cX3_readStone 159 = .ok (.if_icmp .lt 5, 3) := by decide +kernel
theorem dX3_readStone_162 : decode cX3_readStone 162 = .ok (.iconst 0, 1) := by decide +kernel
theorem dX3_readStone_163 : decode cX3_readStone 163 = .ok (.ireturn, 1) := by decide +kernel
theorem dX3_readStone_164 : decode cX3_readStone 164 = .ok (.iload 7, 2) := by decide +kernel
theorem dX3_readStone_166 : decode cX3_readStone 166 = .ok (.iload 8, 2) := by decide +kernel
theorem dX3_readStone_168 : decode cX3_readStone 168 = .ok (.iload 9, 2) := by decide +kernel
theorem dX3_readStone_170 : decode cX3_readStone 170 = .ok (.invokestatic 105, 3) := by decide +kernel
theorem dX3_readStone_173 : decode cX3_readStone 173 = .ok (.istore 10, 2) := by decide +kernel
theorem dX3_readStone_175 : decode cX3_readStone 175 = .ok (.aload_n 2, 1) := by decide +kernel
theorem dX3_readStone_176 : decode cX3_readStone 176 = .ok (.getfield 109, 3) := by decide +kernel
theorem dX3_readStone_179 : decode cX3_readStone 179 = .ok (.iload 10, 2) := by decide +kernel
theorem dX3_readStone_181 : decode cX3_readStone 181 = .ok (.iaload, 1) := by decide +kernel
theorem dX3_readStone_182 : decode cX3_readStone 182 = .ok (.iconst (-1), 1) := by decide +kernel
theorem dX3_readStone_183 : decode cX3_readStone 183 = .ok (.if_icmp .eq 5, 3) := by decide +kernel
theorem dX3_readStone_186 : decode cX3_readStone 186 = .ok (.iconst 0, 1) := by decide +kernel
theorem dX3_readStone_187 : decode cX3_readStone 187 = .ok (.ireturn, 1) := by decide +kernel
theorem dX3_readStone_188 : decode cX3_readStone 188 = .ok (.aload_n 2, 1) := by decide +kernel
theorem dX3_readStone_189 : decode cX3_readStone 189 = .ok (.iload_n 1, 1) := by decide +kernel
theorem dX3_readStone_190 : decode cX3_readStone 190 = .ok (.iload 10, 2) := by decide +kernel
theorem dX3_readStone_192 : decode cX3_readStone 192 = .ok (.invokevirtual 112, 3) := by decide +kernel
theorem dX3_readStone_195 : decode cX3_readStone 195 = .ok (.iconst 1, 1) := by decide +kernel
theorem dX3_readStone_196 : decode cX3_readStone 196 = .ok (.ireturn, 1) := by decide +kernel
theorem dX3_allRest_0 : decode cX3_allRest 0 = .ok (.iconst 0, 1) := by decide +kernel
theorem dX3_allRest_1 : decode cX3_allRest 1 = .ok (.istore_n 1, 1) := by decide +kernel
theorem dX3_allRest_2 : decode cX3_allRest 2 = .ok (.iload_n 1, 1) := by decide +kernel
theorem dX3_allRest_3 : decode cX3_allRest 3 = .ok (.aload_n 0, 1) := by decide +kernel
theorem dX3_allRest_4 : decode cX3_allRest 4 = .ok (.getfield 28, 3) := by decide +kernel
theorem dX3_allRest_7 : decode cX3_allRest 7 = .ok (.invokevirtual 32, 3) := by decide +kernel
theorem dX3_allRest_10 : decode cX3_allRest 10 = .ok (.if_icmp .ge 41, 3) := by decide +kernel
theorem dX3_allRest_13 : decode cX3_allRest 13 = .ok (.aload_n 0, 1) := by decide +kernel
theorem dX3_allRest_14 : decode cX3_allRest 14 = .ok (.getfield 38, 3) := by decide +kernel
theorem dX3_allRest_17 : decode cX3_allRest 17 = .ok (.iload_n 1, 1) := by decide +kernel
theorem dX3_allRest_18 : decode cX3_allRest 18 = .ok (.iaload, 1) := by decide +kernel
theorem dX3_allRest_19 : decode cX3_allRest 19 = .ok (.istore_n 2, 1) := by decide +kernel
theorem dX3_allRest_20 : decode cX3_allRest 20 = .ok (.iload_n 2, 1) := by decide +kernel
theorem dX3_allRest_21 : decode cX3_allRest 21 = .ok (.iconst (-1), 1) := by decide +kernel
theorem dX3_allRest_22 : decode cX3_allRest 22 = .ok (.if_icmp .eq 23, 3) := by decide +kernel
theorem dX3_allRest_25 : decode cX3_allRest 25 = .ok (.iload_n 2, 1) := by decide +kernel
theorem dX3_allRest_26 : decode cX3_allRest 26 = .ok (.iconst 4, 1) := by decide +kernel
theorem dX3_allRest_27 : decode cX3_allRest 27 = .ok (.irem, 1) := by decide +kernel
theorem dX3_allRest_28 : decode cX3_allRest 28 = .ok (.ifCond .le 17, 3) := by decide +kernel
theorem dX3_allRest_31 : decode cX3_allRest 31 = .ok (.aload_n 0, 1) := by decide +kernel
theorem dX3_allRest_32 : decode cX3_allRest 32 = .ok (.getfield 109, 3) := by decide +kernel
theorem dX3_allRest_35 : decode cX3_allRest 35 = .ok (.iload_n 2, 1) := by decide +kernel
theorem dX3_allRest_36 : decode cX3_allRest 36 = .ok (.iconst 1, 1) := by decide +kernel
theorem dX3_allRest_37 : decode cX3_allRest 37 = .ok (.isub, 1) := by decide +kernel
theorem dX3_allRest_38 : decode cX3_allRest 38 = .ok (.iaload, 1) := by decide +kernel
theorem dX3_allRest_39 : decode cX3_allRest 39 = .ok (.iconst (-1), 1) := by decide +kernel
theorem dX3_allRest_40 : decode cX3_allRest 40 = .ok (.if_icmp .ne 5, 3) := by decide +kernel
theorem dX3_allRest_43 : decode cX3_allRest 43 = .ok (.iconst 0, 1) := by decide +kernel
theorem dX3_allRest_44 : decode cX3_allRest 44 = .ok (.ireturn, 1) := by decide +kernel
theorem dX3_allRest_45 : decode cX3_allRest 45 = .ok (.iinc 1 1, 3) := by decide +kernel
theorem dX3_allRest_48 : decode cX3_allRest 48 = .ok (.goto (-46), 3) := by decide +kernel
theorem dX3_allRest_51 : decode cX3_allRest 51 = .ok (.iconst 1, 1) := by decide +kernel
theorem dX3_allRest_52 : decode cX3_allRest 52 = .ok (.ireturn, 1) := by decide +kernel
theorem dX4_begin_0 : decode cX4_begin 0 = .ok (.aload_n 0, 1) := by decide +kernel
theorem dX4_begin_1 : decode cX4_begin 1 = .ok (.aload_n 1, 1) := by decide +kernel
theorem dX4_begin_2 : decode cX4_begin 2 = .ok (.putfield 20, 3) := by decide +kernel
theorem dX4_begin_5 : decode cX4_begin 5 = .ok (.aload_n 0, 1) := by decide +kernel
theorem dX4_begin_6 : decode cX4_begin 6 = .ok (.getfield 20, 3) := by decide +kernel
theorem dX4_begin_9 : decode cX4_begin 9 = .ok (.invokevirtual 33, 3) := by decide +kernel
theorem dX4_begin_12 : decode cX4_begin 12 = .ok (.aload_n 0, 1) := by decide +kernel
theorem dX4_begin_13 : decode cX4_begin 13 = .ok (.getfield 14, 3) := by decide +kernel
theorem dX4_begin_16 : decode cX4_begin 16 = .ok (.invokevirtual 36, 3) := by decide +kernel
theorem dX4_begin_19 : decode cX4_begin 19 = .ok (.return_, 1) := by decide +kernel
theorem dX4_hasMore_0 : decode cX4_hasMore 0 = .ok (.aload_n 0, 1) := by decide +kernel
theorem dX4_hasMore_1 : decode cX4_hasMore 1 = .ok (.getfield 14, 3) := by decide +kernel
theorem dX4_hasMore_4 : decode cX4_hasMore 4 = .ok (.invokevirtual 39, 3) := by decide +kernel
theorem dX4_hasMore_7 : decode cX4_hasMore 7 = .ok (.ifCond .eq 17, 3) := by decide +kernel
theorem dX4_hasMore_10 : decode cX4_hasMore 10 = .ok (.aload_n 0, 1) := by decide +kernel
theorem dX4_hasMore_11 : decode cX4_hasMore 11 = .ok (.getfield 14, 3) := by decide +kernel
theorem dX4_hasMore_14 : decode cX4_hasMore 14 = .ok (.invokevirtual 43, 3) := by decide +kernel
theorem dX4_hasMore_17 : decode cX4_hasMore 17 = .ok (.ifCond .eq 7, 3) := by decide +kernel
theorem dX4_hasMore_20 : decode cX4_hasMore 20 = .ok (.iconst 1, 1) := by decide +kernel
theorem dX4_hasMore_21 : decode cX4_hasMore 21 = .ok (.goto 4, 3) := by decide +kernel
theorem dX4_hasMore_24 : decode cX4_hasMore 24 = .ok (.iconst 0, 1) := by decide +kernel
theorem dX4_hasMore_25 : decode cX4_hasMore 25 = .ok (.ireturn, 1) := by decide +kernel
theorem dX4_statement_0 : decode cX4_statement 0 = .ok (.iload_n 1, 1) := by decide +kernel
theorem dX4_statement_1 : decode cX4_statement 1 = .ok (.bipush 80, 2) := by decide +kernel
theorem dX4_statement_3 : decode cX4_statement 3 = .ok (.if_icmp .lt 20, 3) := by decide +kernel
theorem dX4_statement_6 : decode cX4_statement 6 = .ok (.aload_n 0, 1) := by decide +kernel
theorem dX4_statement_7 : decode cX4_statement 7 = .ok (.getfield 14, 3) := by decide +kernel
theorem dX4_statement_10 : decode cX4_statement 10 = .ok (.bipush 6, 2) := by decide +kernel
theorem dX4_statement_12 : decode cX4_statement 12 = .ok (.aload_n 0, 1) := by decide +kernel
theorem dX4_statement_13 : decode cX4_statement 13 = .ok (.getfield 14, 3) := by decide +kernel
theorem dX4_statement_16 : decode cX4_statement 16 = .ok (.getfield 46, 3) := by decide +kernel
theorem dX4_statement_19 : decode cX4_statement 19 = .ok (.invokevirtual 50, 3) := by decide +kernel
theorem dX4_statement_22 : decode cX4_statement 22 = .ok (.return_, 1) := by decide +kernel
theorem dX4_statement_23 : decode cX4_statement 23 = .ok (.aload_n 0, 1) := by decide +kernel
theorem dX4_statement_24 : decode cX4_statement 24 = .ok (.getfield 14, 3) := by decide +kernel
theorem dX4_statement_27 : decode cX4_statement 27 = .ok (.invokevirtual 54, 3) := by decide +kernel
theorem dX4_statement_30 : decode cX4_statement 30 = .ok (.getstatic 57, 3) := by decide +kernel
theorem dX4_statement_33 : decode cX4_statement 33 = .ok (.aload_n 0, 1) := by decide +kernel
theorem dX4_statement_34 : decode cX4_statement 34 = .ok (.getfield 14, 3) := by decide +kernel
theorem dX4_statement_37 : decode cX4_statement 37 = .ok (.getfield 63, 3) := by decide +kernel
theorem dX4_statement_40 : decode cX4_statement 40 = .ok (.invokevirtual 67, 3) := by decide +kernel
theorem dX4_statement_43 : decode cX4_statement 43 = .ok (.iaload, 1) := by decide +kernel
theorem dX4_statement_44 : decode cX4_statement 44 = .ok (.tableswitch 180 1 11 #[60, 67, 74, 81, 88, 95, 110, 125, 132, 148, 164], 60) := by decide +kernel
theorem dX4_statement_104 : decode cX4_statement 104 = .ok (.aload_n 0, 1) := by decide +kernel
theorem dX4_statement_105 : decode cX4_statement 105 = .ok (.invokevirtual 73, 3) := by decide +kernel
theorem dX4_statement_108 : decode cX4_statement 108 = .ok (.goto 124, 3) := by decide +kernel
theorem dX4_statement_111 : decode cX4_statement 111 = .ok (.aload_n 0, 1) := by decide +kernel
theorem dX4_statement_112 : decode cX4_statement 112 = .ok (.invokevirtual 76, 3) := by decide +kernel
theorem dX4_statement_115 : decode cX4_statement 115 = .ok (.goto 117, 3) := by decide +kernel
theorem dX4_statement_118 : decode cX4_statement 118 = .ok (.aload_n 0, 1) := by decide +kernel
theorem dX4_statement_119 : decode cX4_statement 119 = .ok (.invokevirtual 79, 3) := by decide +kernel
theorem dX4_statement_122 : decode cX4_statement 122 = .ok (.goto 110, 3) := by decide +kernel
theorem dX4_statement_125 : decode cX4_statement 125 = .ok (.aload_n 0, 1) := by decide +kernel
theorem dX4_statement_126 : decode cX4_statement 126 = .ok (.invokevirtual 82, 3) := by decide +kernel
theorem dX4_statement_129 : decode cX4_statement 129 = .ok (.goto 103, 3) := by decide +kernel
theorem dX4_statement_132 : decode cX4_statement 132 = .ok (.aload_n 0, 1) := by decide +kernel
theorem dX4_statement_133 : decode cX4_statement 133 = .ok (.invokevirtual 85, 3) := by decide +kernel
theorem dX4_statement_136 : decode cX4_statement 136 = .ok (.goto 96, 3) := by decide +kernel
theorem dX4_statement_139 : decode cX4_statement 139 = .ok (.aload_n 0, 1) := by decide +kernel
theorem dX4_statement_140 : decode cX4_statement 140 = .ok (.aload_n 0, 1) := by decide +kernel
theorem dX4_statement_141 : decode cX4_statement 141 = .ok (.getfield 20, 3) := by decide +kernel
theorem dX4_statement_144 : decode cX4_statement 144 = .ok (.getfield 24, 3) := by decide +kernel
theorem dX4_statement_147 : decode cX4_statement 147 = .ok (.iconst 0, 1) := by decide +kernel
theorem dX4_statement_148 : decode cX4_statement 148 = .ok (.invokevirtual 88, 3) := by decide +kernel
theorem dX4_statement_151 : decode cX4_statement 151 = .ok (.goto 81, 3) := by decide +kernel
theorem dX4_statement_154 : decode cX4_statement 154 = .ok (.aload_n 0, 1) := by decide +kernel
theorem dX4_statement_155 : decode cX4_statement 155 = .ok (.aload_n 0, 1) := by decide +kernel
theorem dX4_statement_156 : decode cX4_statement 156 = .ok (.getfield 20, 3) := by decide +kernel
theorem dX4_statement_159 : decode cX4_statement 159 = .ok (.getfield 92, 3) := by decide +kernel
theorem dX4_statement_162 : decode cX4_statement 162 = .ok (.iconst 1, 1) := by decide +kernel
theorem dX4_statement_163 : decode cX4_statement 163 = .ok (.invokevirtual 88, 3) := by decide +kernel
theorem dX4_statement_166 : decode cX4_statement 166 = .ok (.goto 66, 3) := by decide +kernel
theorem dX4_statement_169 : decode cX4_statement 169 = .ok (.aload_n 0, 1) := by decide +kernel
theorem dX4_statement_170 : decode cX4_statement 170 = .ok (.invokevirtual 95, 3) := by decide +kernel
theorem dX4_statement_173 : decode cX4_statement 173 = .ok (.goto 59, 3) := by decide +kernel
theorem dX4_statement_176 : decode cX4_statement 176 = .ok (.aload_n 0, 1) := by decide +kernel
theorem dX4_statement_177 : decode cX4_statement 177 = .ok (.getfield 20, 3) := by decide +kernel
theorem dX4_statement_180 : decode cX4_statement 180 = .ok (.aload_n 0, 1) := by decide +kernel
theorem dX4_statement_181 : decode cX4_statement 181 = .ok (.bipush 99, 2) := by decide +kernel
theorem dX4_statement_183 : decode cX4_statement 183 = .ok (.invokevirtual 98, 3) := by decide +kernel
theorem dX4_statement_186 : decode cX4_statement 186 = .ok (.putfield 102, 3) := by decide +kernel
theorem dX4_statement_189 : decode cX4_statement 189 = .ok (.goto 43, 3) := by decide +kernel
theorem dX4_statement_192 : decode cX4_statement 192 = .ok (.aload_n 0, 1) := by decide +kernel
theorem dX4_statement_193 : decode cX4_statement 193 = .ok (.getfield 20, 3) := by decide +kernel
theorem dX4_statement_196 : decode cX4_statement 196 = .ok (.aload_n 0, 1) := by decide +kernel
theorem dX4_statement_197 : decode cX4_statement 197 = .ok (.bipush 100, 2) := by decide +kernel
theorem dX4_statement_199 : decode cX4_statement 199 = .ok (.invokevirtual 98, 3) := by decide +kernel
theorem dX4_statement_202 : decode cX4_statement 202 = .ok (.putfield 105, 3) := by decide +kernel
theorem dX4_statement_205 : decode cX4_statement 205 = .ok (.goto 27, 3) := by decide +kernel
theorem dX4_statement_208 : decode cX4_statement 208 = .ok (.aload_n 0, 1) := by decide +kernel
theorem dX4_statement_209 : decode cX4_statement 209 = .ok (.getfield 20, 3) := by decide +kernel
theorem dX4_statement_212 : decode cX4_statement 212 = .ok (.aload_n 0, 1) := by decide +kernel
theorem dX4_statement_213 : decode cX4_statement 213 = .ok (.bipush 99, 2) := by decide +kernel
theorem dX4_statement_215 : decode cX4_statement 215 = .ok (.invokevirtual 98, 3) := by decide +kernel
theorem dX4_statement_218 : decode cX4_statement 218 = .ok (.putfield 108, 3) := by decide +kernel
theorem dX4_statement_221 : decode cX4_statement 221 = .ok (.goto 11, 3) := by decide +kernel
theorem dX4_statement_224 : decode cX4_statement 224 = .ok (.aload_n 0, 1) := by decide +kernel
theorem dX4_statement_225 : decode cX4_statement 225 = .ok (.getfield 14, 3) := by decide +kernel
theorem dX4_statement_228 : decode cX4_statement 228 = .ok (.iconst 1, 1) := by decide +kernel
theorem dX4_statement_229 : decode cX4_statement 229 = .ok (.invokevirtual 111, 3) := by decide +kernel
theorem dX4_statement_232 : decode cX4_statement 232 = .ok (.aload_n 0, 1) := by decide +kernel
theorem dX4_statement_233 : decode cX4_statement 233 = .ok (.getfield 14, 3) := by decide +kernel
theorem dX4_statement_236 : decode cX4_statement 236 = .ok (.bipush 59, 2) := by decide +kernel
theorem dX4_statement_238 : decode cX4_statement 238 = .ok (.invokevirtual 115, 3) := by decide +kernel
theorem dX4_statement_241 : decode cX4_statement 241 = .ok (.ifCond .ne 11, 3) := by decide +kernel
theorem dX4_statement_244 : decode cX4_statement 244 = .ok (.aload_n 0, 1) := by decide +kernel
theorem dX4_statement_245 : decode cX4_statement 245 = .ok (.getfield 14, 3) := by decide +kernel
theorem dX4_statement_248 : decode cX4_statement 248 = .ok (.iconst 1, 1) := by decide +kernel
theorem dX4_statement_249 : decode cX4_statement 249 = .ok (.invokevirtual 111, 3) := by decide +kernel
theorem dX4_statement_252 : decode cX4_statement 252 = .ok (.return_, 1) := by decide +kernel
theorem dX4_homeLine_0 : decode cX4_homeLine 0 = .ok (.aload_n 0, 1) := by decide +kernel
theorem dX4_homeLine_1 : decode cX4_homeLine 1 = .ok (.aload_n 0, 1) := by decide +kernel
theorem dX4_homeLine_2 : decode cX4_homeLine 2 = .ok (.getfield 20, 3) := by decide +kernel
theorem dX4_homeLine_5 : decode cX4_homeLine 5 = .ok (.invokevirtual 119, 3) := by decide +kernel
theorem dX4_homeLine_8 : decode cX4_homeLine 8 = .ok (.bipush 6, 2) := by decide +kernel
theorem dX4_homeLine_10 : decode cX4_homeLine 10 = .ok (.invokevirtual 122, 3) := by decide +kernel
theorem dX4_homeLine_13 : decode cX4_homeLine 13 = .ok (.aload_n 0, 1) := by decide +kernel
theorem dX4_homeLine_14 : decode cX4_homeLine 14 = .ok (.getfield 14, 3) := by decide +kernel
theorem dX4_homeLine_17 : decode cX4_homeLine 17 = .ok (.invokevirtual 54, 3) := by decide +kernel
theorem dX4_homeLine_20 : decode cX4_homeLine 20 = .ok (.aload_n 0, 1) := by decide +kernel
theorem dX4_homeLine_21 : decode cX4_homeLine 21 = .ok (.invokevirtual 125, 3) := by decide +kernel
theorem dX4_homeLine_24 : decode cX4_homeLine 24 = .ok (.istore_n 1, 1) := by decide +kernel
theorem dX4_homeLine_25 : decode cX4_homeLine 25 = .ok (.aload_n 0, 1) := by decide +kernel
theorem dX4_homeLine_26 : decode cX4_homeLine 26 = .ok (.getstatic 128, 3) := by decide +kernel
theorem dX4_homeLine_29 : decode cX4_homeLine 29 = .ok (.invokevirtual 131, 3) := by decide +kernel
theorem dX4_homeLine_32 : decode cX4_homeLine 32 = .ok (.aload_n 0, 1) := by decide +kernel
theorem dX4_homeLine_33 : decode cX4_homeLine 33 = .ok (.iconst 0, 1) := by decide +kernel
theorem dX4_homeLine_34 : decode cX4_homeLine 34 = .ok (.bipush 9, 2) := by decide +kernel
theorem dX4_homeLine_36 : decode cX4_homeLine 36 = .ok (.invokevirtual 135, 3) := by decide +kernel
theorem dX4_homeLine_39 : decode cX4_homeLine 39 = .ok (.istore_n 2, 1) := by decide +kernel
theorem dX4_homeLine_40 : decode cX4_homeLine 40 = .ok (.aload_n 0, 1) := by decide +kernel
theorem dX4_homeLine_41 : decode cX4_homeLine 41 = .ok (.getstatic 139, 3) := by decide +kernel
theorem dX4_homeLine_44 : decode cX4_homeLine 44 = .ok (.invokevirtual 131, 3) := by decide +kernel
theorem dX4_homeLine_47 : decode cX4_homeLine 47 = .ok (.aload_n 0, 1) := by decide +kernel
theorem dX4_homeLine_48 : decode cX4_homeLine 48 = .ok (.iconst 0, 1) := by decide +kernel
theorem dX4_homeLine_49 : decode cX4_homeLine 49 = .ok (.bipush 9, 2) := by decide +kernel
theorem dX4_homeLine_51 : decode cX4_homeLine 51 = .ok (.invokevirtual 135, 3) := by decide +kernel
theorem dX4_homeLine_54 : decode cX4_homeLine 54 = .ok (.istore_n 3, 1) := by decide +kernel
theorem dX4_homeLine_55 : decode cX4_homeLine 55 = .ok (.aload_n 0, 1) := by decide +kernel
theorem dX4_homeLine_56 : decode cX4_homeLine 56 = .ok (.getfield 20, 3) := by decide +kernel
theorem dX4_homeLine_59 : decode cX4_homeLine 59 = .ok (.invokevirtual 119, 3) := by decide +kernel
theorem dX4_homeLine_62 : decode cX4_homeLine 62 = .ok (.istore 4, 2) := by decide +kernel
theorem dX4_homeLine_64 : decode cX4_homeLine 64 = .ok (.aload_n 0, 1) := by decide +kernel
theorem dX4_homeLine_65 : decode cX4_homeLine 65 = .ok (.getfield 14, 3) := by decide +kernel
theorem dX4_homeLine_68 : decode cX4_homeLine 68 = .ok (.invokevirtual 39, 3) := by decide +kernel
theorem dX4_homeLine_71 : decode cX4_homeLine 71 = .ok (.ifCond .eq 41, 3) := by decide +kernel
theorem dX4_homeLine_74 : decode cX4_homeLine 74 = .ok (.iload 4, 2) := by decide +kernel
theorem dX4_homeLine_76 : decode cX4_homeLine 76 = .ok (.bipush 6, 2) := by decide +kernel
theorem dX4_homeLine_78 : decode cX4_homeLine 78 = .ok (.if_icmp .ge 34, 3) := by decide +kernel
theorem dX4_homeLine_81 : decode cX4_homeLine 81 = .ok (.aload_n 0, 1) := by decide +kernel
theorem dX4_homeLine_82 : decode cX4_homeLine 82 = .ok (.getfield 20, 3) := by decide +kernel
theorem dX4_homeLine_85 : decode cX4_homeLine 85 = .ok (.getfield 142, 3) := by decide +kernel
theorem dX4_homeLine_88 : decode cX4_homeLine 88 = .ok (.iload 4, 2) := by decide +kernel
theorem dX4_homeLine_90 : decode cX4_homeLine 90 = .ok (.iload_n 2, 1) := by decide +kernel
theorem dX4_homeLine_91 : decode cX4_homeLine 91 = .ok (.iastore, 1) := by decide +kernel
theorem dX4_homeLine_92 : decode cX4_homeLine 92 = .ok (.aload_n 0, 1) := by decide +kernel
theorem dX4_homeLine_93 : decode cX4_homeLine 93 = .ok (.getfield 20, 3) := by decide +kernel
theorem dX4_homeLine_96 : decode cX4_homeLine 96 = .ok (.getfield 145, 3) := by decide +kernel
theorem dX4_homeLine_99 : decode cX4_homeLine 99 = .ok (.iload 4, 2) := by decide +kernel
theorem dX4_homeLine_101 : decode cX4_homeLine 101 = .ok (.iload_n 3, 1) := by decide +kernel
theorem dX4_homeLine_102 : decode cX4_homeLine 102 = .ok (.iastore, 1) := by decide +kernel
theorem dX4_homeLine_103 : decode cX4_homeLine 103 = .ok (.aload_n 0, 1) := by decide +kernel
theorem dX4_homeLine_104 : decode cX4_homeLine 104 = .ok (.getfield 20, 3) := by decide +kernel
theorem dX4_homeLine_107 : decode cX4_homeLine 107 = .ok (.iconst 0, 1) := by decide +kernel
theorem dX4_homeLine_108 : decode cX4_homeLine 108 = .ok (.iload_n 1, 1) := by decide +kernel
theorem dX4_homeLine_109 : decode cX4_homeLine 109 = .ok (.invokevirtual 148, 3) := by decide +kernel
theorem dX4_homeLine_112 : decode cX4_homeLine 112 = .ok (.return_, 1) := by decide +kernel
theorem dX4_childLine_0 : decode cX4_childLine 0 = .ok (.aload_n 0, 1) := by decide +kernel
theorem dX4_childLine_1 : decode cX4_childLine 1 = .ok (.aload_n 0, 1) := by decide +kernel
theorem dX4_childLine_2 : decode cX4_childLine 2 = .ok (.getfield 20, 3) := by decide +kernel
theorem dX4_childLine_5 : decode cX4_childLine 5 = .ok (.invokevirtual 151, 3) := by decide +kernel
theorem dX4_childLine_8 : decode cX4_childLine 8 = .ok (.bipush 8, 2) := by decide +kernel
theorem dX4_childLine_10 : decode cX4_childLine 10 = .ok (.invokevirtual 122, 3) := by decide +kernel
theorem dX4_childLine_13 : decode cX4_childLine 13 = .ok (.aload_n 0, 1) := by decide +kernel
theorem dX4_childLine_14 : decode cX4_childLine 14 = .ok (.getfield 14, 3) := by decide +kernel
theorem dX4_childLine_17 : decode cX4_childLine 17 = .ok (.invokevirtual 54, 3) := by decide +kernel
theorem dX4_childLine_20 : decode cX4_childLine 20 = .ok (.aload_n 0, 1) := by decide +kernel
theorem dX4_childLine_21 : decode cX4_childLine 21 = .ok (.invokevirtual 125, 3) := by decide +kernel
theorem dX4_childLine_24 : decode cX4_childLine 24 = .ok (.istore_n 1, 1) := by decide +kernel
theorem dX4_childLine_25 : decode cX4_childLine 25 = .ok (.aload_n 0, 1) := by decide +kernel
theorem dX4_childLine_26 : decode cX4_childLine 26 = .ok (.getstatic 154, 3) := by decide +kernel
theorem dX4_childLine_29 : decode cX4_childLine 29 = .ok (.invokevirtual 131, 3) := by decide +kernel
theorem dX4_childLine_32 : decode cX4_childLine 32 = .ok (.aload_n 0, 1) := by decide +kernel
theorem dX4_childLine_33 : decode cX4_childLine 33 = .ok (.iconst 0, 1) := by decide +kernel
theorem dX4_childLine_34 : decode cX4_childLine 34 = .ok (.iconst 0, 1) := by decide +kernel
theorem dX4_childLine_35 : decode cX4_childLine 35 = .ok (.invokevirtual 157, 3) := by decide +kernel
theorem dX4_childLine_38 : decode cX4_childLine 38 = .ok (.istore_n 2, 1) := by decide +kernel
theorem dX4_childLine_39 : decode cX4_childLine 39 = .ok (.aload_n 0, 1) := by decide +kernel
theorem dX4_childLine_40 : decode cX4_childLine 40 = .ok (.getstatic 160, 3) := by decide +kernel
theorem dX4_childLine_43 : decode cX4_childLine 43 = .ok (.invokevirtual 131, 3) := by decide +kernel
theorem dX4_childLine_46 : decode cX4_childLine 46 = .ok (.aload_n 0, 1) := by decide +kernel
theorem dX4_childLine_47 : decode cX4_childLine 47 = .ok (.iconst 0, 1) := by decide +kernel
theorem dX4_childLine_48 : decode cX4_childLine 48 = .ok (.bipush 99, 2) := by decide +kernel
theorem dX4_childLine_50 : decode cX4_childLine 50 = .ok (.invokevirtual 135, 3) := by decide +kernel
theorem dX4_childLine_53 : decode cX4_childLine 53 = .ok (.istore_n 3, 1) := by decide +kernel
theorem dX4_childLine_54 : decode cX4_childLine 54 = .ok (.aload_n 0, 1) := by decide +kernel
theorem dX4_childLine_55 : decode cX4_childLine 55 = .ok (.getfield 20, 3) := by decide +kernel
theorem dX4_childLine_58 : decode cX4_childLine 58 = .ok (.invokevirtual 151, 3) := by decide +kernel
theorem dX4_childLine_61 : decode cX4_childLine 61 = .ok (.istore 4, 2) := by decide +kernel
theorem dX4_childLine_63 : decode cX4_childLine 63 = .ok (.aload_n 0, 1) := by decide +kernel
theorem dX4_childLine_64 : decode cX4_childLine 64 = .ok (.getfield 14, 3) := by decide +kernel
theorem dX4_childLine_67 : decode cX4_childLine 67 = .ok (.invokevirtual 39, 3) := by decide +kernel
theorem dX4_childLine_70 : decode cX4_childLine 70 = .ok (.ifCond .eq 41, 3) := by decide +kernel
theorem dX4_childLine_73 : decode cX4_childLine 73 = .ok (.iload 4, 2) := by decide +kernel
theorem dX4_childLine_75 : decode cX4_childLine 75 = .ok (.bipush 8, 2) := by decide +kernel
theorem dX4_childLine_77 : decode cX4_childLine 77 = .ok (.if_icmp .ge 34, 3) := by decide +kernel
theorem dX4_childLine_80 : decode cX4_childLine 80 = .ok (.aload_n 0, 1) := by decide +kernel
theorem dX4_childLine_81 : decode cX4_childLine 81 = .ok (.getfield 20, 3) := by decide +kernel
theorem dX4_childLine_84 : decode cX4_childLine 84 = .ok (.getfield 163, 3) := by decide +kernel
theorem dX4_childLine_87 : decode cX4_childLine 87 = .ok (.iload 4, 2) := by decide +kernel
theorem dX4_childLine_89 : decode cX4_childLine 89 = .ok (.iload_n 2, 1) := by decide +kernel
theorem dX4_childLine_90 : decode cX4_childLine 90 = .ok (.iastore, 1) := by decide +kernel
theorem dX4_childLine_91 : decode cX4_childLine 91 = .ok (.aload_n 0, 1) := by decide +kernel
theorem dX4_childLine_92 : decode cX4_childLine 92 = .ok (.getfield 20, 3) := by decide +kernel
theorem dX4_childLine_95 : decode cX4_childLine 95 = .ok (.getfield 166, 3) := by decide +kernel
theorem dX4_childLine_98 : decode cX4_childLine 98 = .ok (.iload 4, 2) := by decide +kernel
theorem dX4_childLine_100 : decode cX4_childLine 100 = .ok (.iload_n 3, 1) := by decide +kernel
theorem dX4_childLine_101 : decode cX4_childLine 101 = .ok (.iastore, 1) := by decide +kernel
theorem dX4_childLine_102 : decode cX4_childLine 102 = .ok (.aload_n 0, 1) := by decide +kernel
theorem dX4_childLine_103 : decode cX4_childLine 103 = .ok (.getfield 20, 3) := by decide +kernel
theorem dX4_childLine_106 : decode cX4_childLine 106 = .ok (.iconst 1, 1) := by decide +kernel
theorem dX4_childLine_107 : decode cX4_childLine 107 = .ok (.iload_n 1, 1) := by decide +kernel
theorem dX4_childLine_108 : decode cX4_childLine 108 = .ok (.invokevirtual 148, 3) := by decide +kernel
theorem dX4_childLine_111 : decode cX4_childLine 111 = .ok (.return_, 1) := by decide +kernel
theorem dX4_twinsLine_0 : decode cX4_twinsLine 0 = .ok (.aload_n 0, 1) := by decide +kernel
theorem dX4_twinsLine_1 : decode cX4_twinsLine 1 = .ok (.getfield 14, 3) := by decide +kernel
theorem dX4_twinsLine_4 : decode cX4_twinsLine 4 = .ok (.invokevirtual 54, 3) := by decide +kernel
theorem dX4_twinsLine_7 : decode cX4_twinsLine 7 = .ok (.aload_n 0, 1) := by decide +kernel
theorem dX4_twinsLine_8 : decode cX4_twinsLine 8 = .ok (.getfield 20, 3) := by decide +kernel
theorem dX4_twinsLine_11 : decode cX4_twinsLine 11 = .ok (.invokevirtual 169, 3) := by decide +kernel
theorem dX4_twinsLine_14 : decode cX4_twinsLine 14 = .ok (.istore_n 1, 1) := by decide +kernel
theorem dX4_twinsLine_15 : decode cX4_twinsLine 15 = .ok (.aload_n 0, 1) := by decide +kernel
theorem dX4_twinsLine_16 : decode cX4_twinsLine 16 = .ok (.iconst 1, 1) := by decide +kernel
theorem dX4_twinsLine_17 : decode cX4_twinsLine 17 = .ok (.iload_n 1, 1) := by decide +kernel
theorem dX4_twinsLine_18 : decode cX4_twinsLine 18 = .ok (.invokevirtual 157, 3) := by decide +kernel
theorem dX4_twinsLine_21 : decode cX4_twinsLine 21 = .ok (.istore_n 2, 1) := by decide +kernel
theorem dX4_twinsLine_22 : decode cX4_twinsLine 22 = .ok (.aload_n 0, 1) := by decide +kernel
theorem dX4_twinsLine_23 : decode cX4_twinsLine 23 = .ok (.iconst 1, 1) := by decide +kernel
theorem dX4_twinsLine_24 : decode cX4_twinsLine 24 = .ok (.iload_n 1, 1) := by decide +kernel
theorem dX4_twinsLine_25 : decode cX4_twinsLine 25 = .ok (.iconst 1, 1) := by decide +kernel
theorem dX4_twinsLine_26 : decode cX4_twinsLine 26 = .ok (.iload_n 2, 1) := by decide +kernel
theorem dX4_twinsLine_27 : decode cX4_twinsLine 27 = .ok (.ishl, 1) := by decide +kernel
theorem dX4_twinsLine_28 : decode cX4_twinsLine 28 = .ok (.ior, 1) := by decide +kernel
theorem dX4_twinsLine_29 : decode cX4_twinsLine 29 = .ok (.invokevirtual 157, 3) := by decide +kernel
theorem dX4_twinsLine_32 : decode cX4_twinsLine 32 = .ok (.istore_n 3, 1) := by decide +kernel
theorem dX4_twinsLine_33 : decode cX4_twinsLine 33 = .ok (.iload_n 2, 1) := by decide +kernel
theorem dX4_twinsLine_34 : decode cX4_twinsLine 34 = .ok (.iconst (-1), 1) := by decide +kernel
theorem dX4_twinsLine_35 : decode cX4_twinsLine 35 = .ok (.if_icmp .eq 28, 3) := by decide +kernel
theorem dX4_twinsLine_38 : decode cX4_twinsLine 38 = .ok (.iload_n 3, 1) := by decide +kernel
theorem dX4_twinsLine_39 : decode cX4_twinsLine 39 = .ok (.iconst (-1), 1) := by decide +kernel
theorem dX4_twinsLine_40 : decode cX4_twinsLine 40 = .ok (.if_icmp .eq 23, 3) := by decide +kernel
theorem dX4_twinsLine_43 : decode cX4_twinsLine 43 = .ok (.aload_n 0, 1) := by decide +kernel
theorem dX4_twinsLine_44 : decode cX4_twinsLine 44 = .ok (.getfield 20, 3) := by decide +kernel
theorem dX4_twinsLine_47 : decode cX4_twinsLine 47 = .ok (.getfield 172, 3) := by decide +kernel
theorem dX4_twinsLine_50 : decode cX4_twinsLine 50 = .ok (.iload_n 2, 1) := by decide +kernel
theorem dX4_twinsLine_51 : decode cX4_twinsLine 51 = .ok (.iload_n 3, 1) := by decide +kernel
theorem dX4_twinsLine_52 : decode cX4_twinsLine 52 = .ok (.iastore, 1) := by decide +kernel
theorem dX4_twinsLine_53 : decode cX4_twinsLine 53 = .ok (.aload_n 0, 1) := by decide +kernel
theorem dX4_twinsLine_54 : decode cX4_twinsLine 54 = .ok (.getfield 20, 3) := by decide +kernel
theorem dX4_twinsLine_57 : decode cX4_twinsLine 57 = .ok (.getfield 172, 3) := by decide +kernel
theorem dX4_twinsLine_60 : decode cX4_twinsLine 60 = .ok (.iload_n 3, 1) := by decide +kernel
theorem dX4_twinsLine_61 : decode cX4_twinsLine 61 = .ok (.iload_n 2, 1) := by decide +kernel
theorem dX4_twinsLine_62 : decode cX4_twinsLine 62 = .ok (.iastore, 1) := by decide +kernel
theorem dX4_twinsLine_63 : decode cX4_twinsLine 63 = .ok (.return_, 1) := by decide +kernel
theorem dX4_feudLine_0 : decode cX4_feudLine 0 = .ok (.aload_n 0, 1) := by decide +kernel
theorem dX4_feudLine_1 : decode cX4_feudLine 1 = .ok (.aload_n 0, 1) := by decide +kernel
theorem dX4_feudLine_2 : decode cX4_feudLine 2 = .ok (.getfield 20, 3) := by decide +kernel
theorem dX4_feudLine_5 : decode cX4_feudLine 5 = .ok (.getfield 175, 3) := by decide +kernel
theorem dX4_feudLine_8 : decode cX4_feudLine 8 = .ok (.bipush 10, 2) := by decide +kernel
theorem dX4_feudLine_10 : decode cX4_feudLine 10 = .ok (.invokevirtual 122, 3) := by decide +kernel
theorem dX4_feudLine_13 : decode cX4_feudLine 13 = .ok (.aload_n 0, 1) := by decide +kernel
theorem dX4_feudLine_14 : decode cX4_feudLine 14 = .ok (.getfield 14, 3) := by decide +kernel
theorem dX4_feudLine_17 : decode cX4_feudLine 17 = .ok (.invokevirtual 54, 3) := by decide +kernel
theorem dX4_feudLine_20 : decode cX4_feudLine 20 = .ok (.aload_n 0, 1) := by decide +kernel
theorem dX4_feudLine_21 : decode cX4_feudLine 21 = .ok (.iconst 1, 1) := by decide +kernel
theorem dX4_feudLine_22 : decode cX4_feudLine 22 = .ok (.iconst 0, 1) := by decide +kernel
theorem dX4_feudLine_23 : decode cX4_feudLine 23 = .ok (.invokevirtual 157, 3) := by decide +kernel
theorem dX4_feudLine_26 : decode cX4_feudLine 26 = .ok (.istore_n 1, 1) := by decide +kernel
theorem dX4_feudLine_27 : decode cX4_feudLine 27 = .ok (.aload_n 0, 1) := by decide +kernel
theorem dX4_feudLine_28 : decode cX4_feudLine 28 = .ok (.iconst 1, 1) := by decide +kernel
theorem dX4_feudLine_29 : decode cX4_feudLine 29 = .ok (.aload_n 0, 1) := by decide +kernel
theorem dX4_feudLine_30 : decode cX4_feudLine 30 = .ok (.getfield 20, 3) := by decide +kernel
theorem dX4_feudLine_33 : decode cX4_feudLine 33 = .ok (.iload_n 1, 1) := by decide +kernel
theorem dX4_feudLine_34 : decode cX4_feudLine 34 = .ok (.iconst 0, 1) := by decide +kernel
theorem dX4_feudLine_35 : decode cX4_feudLine 35 = .ok (.invokevirtual 178, 3) := by decide +kernel
theorem dX4_feudLine_38 : decode cX4_feudLine 38 = .ok (.iconst 1, 1) := by decide +kernel
theorem dX4_feudLine_39 : decode cX4_feudLine 39 = .ok (.iload_n 1, 1) := by decide +kernel
theorem dX4_feudLine_40 : decode cX4_feudLine 40 = .ok (.ishl, 1) := by decide +kernel
theorem dX4_feudLine_41 : decode cX4_feudLine 41 = .ok (.ior, 1) := by decide +kernel
theorem dX4_feudLine_42 : decode cX4_feudLine 42 = .ok (.invokevirtual 157, 3) := by decide +kernel
theorem dX4_feudLine_45 : decode cX4_feudLine 45 = .ok (.istore_n 2, 1) := by decide +kernel
theorem dX4_feudLine_46 : decode cX4_feudLine 46 = .ok (.iload_n 1, 1) := by decide +kernel
theorem dX4_feudLine_47 : decode cX4_feudLine 47 = .ok (.iconst (-1), 1) := by decide +kernel
theorem dX4_feudLine_48 : decode cX4_feudLine 48 = .ok (.if_icmp .eq 55, 3) := by decide +kernel
theorem dX4_feudLine_51 : decode cX4_feudLine 51 = .ok (.iload_n 2, 1) := by decide +kernel
theorem dX4_feudLine_52 : decode cX4_feudLine 52 = .ok (.iconst (-1), 1) := by decide +kernel
theorem dX4_feudLine_53 : decode cX4_feudLine 53 = .ok (.if_icmp .eq 50, 3) := by decide +kernel
theorem dX4_feudLine_56 : decode cX4_feudLine 56 = .ok (.aload_n 0, 1) := by decide +kernel
theorem dX4_feudLine_57 : decode cX4_feudLine 57 = .ok (.getfield 20, 3) := by decide +kernel
theorem dX4_feudLine_60 : decode cX4_feudLine 60 = .ok (.getfield 175, 3) := by decide +kernel
theorem dX4_feudLine_63 : decode cX4_feudLine 63 = .ok (.bipush 10, 2) := by decide +kernel
theorem dX4_feudLine_65 : decode cX4_feudLine 65 = .ok (.if_icmp .ge 38, 3) := by decide +kernel
theorem dX4_feudLine_68 : decode cX4_feudLine 68 = .ok (.aload_n 0, 1) := by decide +kernel
theorem dX4_feudLine_69 : decode cX4_feudLine 69 = .ok (.getfield 20, 3) := by decide +kernel
theorem dX4_feudLine_72 : decode cX4_feudLine 72 = .ok (.getfield 181, 3) := by decide +kernel
theorem dX4_feudLine_75 : decode cX4_feudLine 75 = .ok (.aload_n 0, 1) := by decide +kernel
theorem dX4_feudLine_76 : decode cX4_feudLine 76 = .ok (.getfield 20, 3) := by decide +kernel
theorem dX4_feudLine_79 : decode cX4_feudLine 79 = .ok (.getfield 175, 3) := by decide +kernel
theorem dX4_feudLine_82 : decode cX4_feudLine 82 = .ok (.iconst 1, 1) := by decide +kernel
theorem dX4_feudLine_83 : decode cX4_feudLine 83 = .ok (.iload_n 1, 1) := by decide +kernel
theorem dX4_feudLine_84 : decode cX4_feudLine 84 = .ok (.ishl, 1) := by decide +kernel
theorem dX4_feudLine_85 : decode cX4_feudLine 85 = .ok (.iconst 1, 1) := by decide +kernel
theorem dX4_feudLine_86 : decode cX4_feudLine 86 = .ok (.iload_n 2, 1) := by decide +kernel
theorem dX4_feudLine_87 : decode cX4_feudLine 87 = .ok (.ishl, 1) := by decide +kernel
theorem dX4_feudLine_88 : decode cX4_feudLine 88 = .ok (.ior, 1) := by decide +kernel
theorem dX4_feudLine_89 : decode cX4_feudLine 89 = .ok (.iastore, 1) := by decide +kernel
theorem dX4_feudLine_90 : decode cX4_feudLine 90 = .ok (.aload_n 0, 1) := by decide +kernel
theorem dX4_feudLine_91 : decode cX4_feudLine 91 = .ok (.getfield 20, 3) := by decide +kernel
theorem dX4_feudLine_94 : decode cX4_feudLine 94 = .ok (.dup, 1) := by decide +kernel
theorem dX4_feudLine_95 : decode cX4_feudLine 95 = .ok (.getfield 175, 3) := by decide +kernel
theorem dX4_feudLine_98 : decode cX4_feudLine 98 = .ok (.iconst 1, 1) := by decide +kernel
theorem dX4_feudLine_99 : decode cX4_feudLine 99 = .ok (.iadd, 1) := by decide +kernel
theorem dX4_feudLine_100 : decode cX4_feudLine 100 = .ok (.putfield 175, 3) := by decide +kernel
theorem dX4_feudLine_103 : decode cX4_feudLine 103 = .ok (.return_, 1) := by decide +kernel
theorem dX4_wallLine_0 : decode cX4_wallLine 0 = .ok (.aload_n 0, 1) := by decide +kernel
theorem dX4_wallLine_1 : decode cX4_wallLine 1 = .ok (.aload_n 0, 1) := by decide +kernel
theorem dX4_wallLine_2 : decode cX4_wallLine 2 = .ok (.getfield 20, 3) := by decide +kernel
theorem dX4_wallLine_5 : decode cX4_wallLine 5 = .ok (.invokevirtual 184, 3) := by decide +kernel
theorem dX4_wallLine_8 : decode cX4_wallLine 8 = .ok (.iconst 4, 1) := by decide +kernel
theorem dX4_wallLine_9 : decode cX4_wallLine 9 = .ok (.invokevirtual 122, 3) := by decide +kernel
theorem dX4_wallLine_12 : decode cX4_wallLine 12 = .ok (.aload_n 0, 1) := by decide +kernel
theorem dX4_wallLine_13 : decode cX4_wallLine 13 = .ok (.getfield 14, 3) := by decide +kernel
theorem dX4_wallLine_16 : decode cX4_wallLine 16 = .ok (.invokevirtual 54, 3) := by decide +kernel
theorem dX4_wallLine_19 : decode cX4_wallLine 19 = .ok (.aload_n 0, 1) := by decide +kernel
theorem dX4_wallLine_20 : decode cX4_wallLine 20 = .ok (.invokevirtual 125, 3) := by decide +kernel
theorem dX4_wallLine_23 : decode cX4_wallLine 23 = .ok (.istore_n 1, 1) := by decide +kernel
theorem dX4_wallLine_24 : decode cX4_wallLine 24 = .ok (.aload_n 0, 1) := by decide +kernel
theorem dX4_wallLine_25 : decode cX4_wallLine 25 = .ok (.getstatic 187, 3) := by decide +kernel
theorem dX4_wallLine_28 : decode cX4_wallLine 28 = .ok (.invokevirtual 131, 3) := by decide +kernel
theorem dX4_wallLine_31 : decode cX4_wallLine 31 = .ok (.aload_n 0, 1) := by decide +kernel
theorem dX4_wallLine_32 : decode cX4_wallLine 32 = .ok (.iconst 1, 1) := by decide +kernel
theorem dX4_wallLine_33 : decode cX4_wallLine 33 = .ok (.iconst 4, 1) := by decide +kernel
theorem dX4_wallLine_34 : decode cX4_wallLine 34 = .ok (.invokevirtual 135, 3) := by decide +kernel
theorem dX4_wallLine_37 : decode cX4_wallLine 37 = .ok (.istore_n 2, 1) := by decide +kernel
theorem dX4_wallLine_38 : decode cX4_wallLine 38 = .ok (.aload_n 0, 1) := by decide +kernel
theorem dX4_wallLine_39 : decode cX4_wallLine 39 = .ok (.getstatic 190, 3) := by decide +kernel
theorem dX4_wallLine_42 : decode cX4_wallLine 42 = .ok (.invokevirtual 131, 3) := by decide +kernel
theorem dX4_wallLine_45 : decode cX4_wallLine 45 = .ok (.aload_n 0, 1) := by decide +kernel
theorem dX4_wallLine_46 : decode cX4_wallLine 46 = .ok (.iconst 1, 1) := by decide +kernel
theorem dX4_wallLine_47 : decode cX4_wallLine 47 = .ok (.iconst 4, 1) := by decide +kernel
theorem dX4_wallLine_48 : decode cX4_wallLine 48 = .ok (.invokevirtual 135, 3) := by decide +kernel
theorem dX4_wallLine_51 : decode cX4_wallLine 51 = .ok (.istore_n 3, 1) := by decide +kernel
theorem dX4_wallLine_52 : decode cX4_wallLine 52 = .ok (.aload_n 0, 1) := by decide +kernel
theorem dX4_wallLine_53 : decode cX4_wallLine 53 = .ok (.getfield 20, 3) := by decide +kernel
theorem dX4_wallLine_56 : decode cX4_wallLine 56 = .ok (.invokevirtual 184, 3) := by decide +kernel
theorem dX4_wallLine_59 : decode cX4_wallLine 59 = .ok (.istore 4, 2) := by decide +kernel
theorem dX4_wallLine_61 : decode cX4_wallLine 61 = .ok (.aload_n 0, 1) := by decide +kernel
theorem dX4_wallLine_62 : decode cX4_wallLine 62 = .ok (.getfield 14, 3) := by decide +kernel
theorem dX4_wallLine_65 : decode cX4_wallLine 65 = .ok (.invokevirtual 39, 3) := by decide +kernel
theorem dX4_wallLine_68 : decode cX4_wallLine 68 = .ok (.ifCond .eq 40, 3) := by decide +kernel
theorem dX4_wallLine_71 : decode cX4_wallLine 71 = .ok (.iload 4, 2) := by decide +kernel
theorem dX4_wallLine_73 : decode cX4_wallLine 73 = .ok (.iconst 4, 1) := by decide +kernel
theorem dX4_wallLine_74 : decode cX4_wallLine 74 = .ok (.if_icmp .ge 34, 3) := by decide +kernel
theorem dX4_wallLine_77 : decode cX4_wallLine 77 = .ok (.aload_n 0, 1) := by decide +kernel
theorem dX4_wallLine_78 : decode cX4_wallLine 78 = .ok (.getfield 20, 3) := by decide +kernel
theorem dX4_wallLine_81 : decode cX4_wallLine 81 = .ok (.getfield 193, 3) := by decide +kernel
theorem dX4_wallLine_84 : decode cX4_wallLine 84 = .ok (.iload 4, 2) := by decide +kernel
theorem dX4_wallLine_86 : decode cX4_wallLine 86 = .ok (.iload_n 2, 1) := by decide +kernel
theorem dX4_wallLine_87 : decode cX4_wallLine 87 = .ok (.iastore, 1) := by decide +kernel
theorem dX4_wallLine_88 : decode cX4_wallLine 88 = .ok (.aload_n 0, 1) := by decide +kernel
theorem dX4_wallLine_89 : decode cX4_wallLine 89 = .ok (.getfield 20, 3) := by decide +kernel
theorem dX4_wallLine_92 : decode cX4_wallLine 92 = .ok (.getfield 196, 3) := by decide +kernel
theorem dX4_wallLine_95 : decode cX4_wallLine 95 = .ok (.iload 4, 2) := by decide +kernel
theorem dX4_wallLine_97 : decode cX4_wallLine 97 = .ok (.iload_n 3, 1) := by decide +kernel
theorem dX4_wallLine_98 : decode cX4_wallLine 98 = .ok (.iastore, 1) := by decide +kernel
theorem dX4_wallLine_99 : decode cX4_wallLine 99 = .ok (.aload_n 0, 1) := by decide +kernel
theorem dX4_wallLine_100 : decode cX4_wallLine 100 = .ok (.getfield 20, 3) := by decide +kernel
theorem dX4_wallLine_103 : decode cX4_wallLine 103 = .ok (.iconst 2, 1) := by decide +kernel
theorem dX4_wallLine_104 : decode cX4_wallLine 104 = .ok (.iload_n 1, 1) := by decide +kernel
theorem dX4_wallLine_105 : decode cX4_wallLine 105 = .ok (.invokevirtual 148, 3) := by decide +kernel
theorem dX4_wallLine_108 : decode cX4_wallLine 108 = .ok (.return_, 1) := by decide +kernel
theorem dX4_raisedLine_0 : decode cX4_raisedLine 0 = .ok (.aload_n 0, 1) := by decide +kernel
theorem dX4_raisedLine_1 : decode cX4_raisedLine 1 = .ok (.getfield 14, 3) := by decide +kernel
theorem dX4_raisedLine_4 : decode cX4_raisedLine 4 = .ok (.invokevirtual 54, 3) := by decide +kernel
theorem dX4_raisedLine_7 : decode cX4_raisedLine 7 = .ok (.aload_n 0, 1) := by decide +kernel
theorem dX4_raisedLine_8 : decode cX4_raisedLine 8 = .ok (.getfield 20, 3) := by decide +kernel
theorem dX4_raisedLine_11 : decode cX4_raisedLine 11 = .ok (.aload_n 0, 1) := by decide +kernel
theorem dX4_raisedLine_12 : decode cX4_raisedLine 12 = .ok (.iconst 1, 1) := by decide +kernel
theorem dX4_raisedLine_13 : decode cX4_raisedLine 13 = .ok (.bipush 30, 2) := by decide +kernel
theorem dX4_raisedLine_15 : decode cX4_raisedLine 15 = .ok (.invokevirtual 135, 3) := by decide +kernel
theorem dX4_raisedLine_18 : decode cX4_raisedLine 18 = .ok (.putfield 199, 3) := by decide +kernel
theorem dX4_raisedLine_21 : decode cX4_raisedLine 21 = .ok (.aload_n 0, 1) := by decide +kernel
theorem dX4_raisedLine_22 : decode cX4_raisedLine 22 = .ok (.getstatic 202, 3) := by decide +kernel
theorem dX4_raisedLine_25 : decode cX4_raisedLine 25 = .ok (.invokevirtual 131, 3) := by decide +kernel
theorem dX4_raisedLine_28 : decode cX4_raisedLine 28 = .ok (.aload_n 0, 1) := by decide +kernel
theorem dX4_raisedLine_29 : decode cX4_raisedLine 29 = .ok (.getfield 20, 3) := by decide +kernel
theorem dX4_raisedLine_32 : decode cX4_raisedLine 32 = .ok (.aload_n 0, 1) := by decide +kernel
theorem dX4_raisedLine_33 : decode cX4_raisedLine 33 = .ok (.aload_n 0, 1) := by decide +kernel
theorem dX4_raisedLine_34 : decode cX4_raisedLine 34 = .ok (.getfield 20, 3) := by decide +kernel
theorem dX4_raisedLine_37 : decode cX4_raisedLine 37 = .ok (.getfield 199, 3) := by decide +kernel
theorem dX4_raisedLine_40 : decode cX4_raisedLine 40 = .ok (.iconst 1, 1) := by decide +kernel
theorem dX4_raisedLine_41 : decode cX4_raisedLine 41 = .ok (.iadd, 1) := by decide +kernel
theorem dX4_raisedLine_42 : decode cX4_raisedLine 42 = .ok (.bipush 30, 2) := by decide +kernel
theorem dX4_raisedLine_44 : decode cX4_raisedLine 44 = .ok (.invokevirtual 135, 3) := by decide +kernel
theorem dX4_raisedLine_47 : decode cX4_raisedLine 47 = .ok (.putfield 205, 3) := by decide +kernel
theorem dX4_raisedLine_50 : decode cX4_raisedLine 50 = .ok (.return_, 1) := by decide +kernel
theorem dX4_setting_0 : decode cX4_setting 0 = .ok (.aload_n 0, 1) := by decide +kernel
theorem dX4_setting_1 : decode cX4_setting 1 = .ok (.getfield 14, 3) := by decide +kernel
theorem dX4_setting_4 : decode cX4_setting 4 = .ok (.invokevirtual 54, 3) := by decide +kernel
theorem dX4_setting_7 : decode cX4_setting 7 = .ok (.aload_n 0, 1) := by decide +kernel
theorem dX4_setting_8 : decode cX4_setting 8 = .ok (.iconst 0, 1) := by decide +kernel
theorem dX4_setting_9 : decode cX4_setting 9 = .ok (.iload_n 1, 1) := by decide +kernel
theorem dX4_setting_10 : decode cX4_setting 10 = .ok (.invokevirtual 135, 3) := by decide +kernel
theorem dX4_setting_13 : decode cX4_setting 13 = .ok (.ireturn, 1) := by decide +kernel
theorem dX4_formulaLine_0 : decode cX4_formulaLine 0 = .ok (.aload_n 0, 1) := by decide +kernel
theorem dX4_formulaLine_1 : decode cX4_formulaLine 1 = .ok (.aload_n 1, 1) := by decide +kernel
theorem dX4_formulaLine_2 : decode cX4_formulaLine 2 = .ok (.getfield 208, 3) := by decide +kernel
theorem dX4_formulaLine_5 : decode cX4_formulaLine 5 = .ok (.iconst 1, 1) := by decide +kernel
theorem dX4_formulaLine_6 : decode cX4_formulaLine 6 = .ok (.invokevirtual 122, 3) := by decide +kernel
theorem dX4_formulaLine_9 : decode cX4_formulaLine 9 = .ok (.aload_n 0, 1) := by decide +kernel
theorem dX4_formulaLine_10 : decode cX4_formulaLine 10 = .ok (.aload_n 1, 1) := by decide +kernel
theorem dX4_formulaLine_11 : decode cX4_formulaLine 11 = .ok (.putfield 30, 3) := by decide +kernel
theorem dX4_formulaLine_14 : decode cX4_formulaLine 14 = .ok (.aload_n 0, 1) := by decide +kernel
theorem dX4_formulaLine_15 : decode cX4_formulaLine 15 = .ok (.iload_n 2, 1) := by decide +kernel
theorem dX4_formulaLine_16 : decode cX4_formulaLine 16 = .ok (.putfield 213, 3) := by decide +kernel
theorem dX4_formulaLine_19 : decode cX4_formulaLine 19 = .ok (.aload_n 0, 1) := by decide +kernel
theorem dX4_formulaLine_20 : decode cX4_formulaLine 20 = .ok (.iconst 0, 1) := by decide +kernel
theorem dX4_formulaLine_21 : decode cX4_formulaLine 21 = .ok (.putfield 217, 3) := by decide +kernel
theorem dX4_formulaLine_24 : decode cX4_formulaLine 24 = .ok (.aload_n 0, 1) := by decide +kernel
theorem dX4_formulaLine_25 : decode cX4_formulaLine 25 = .ok (.getfield 14, 3) := by decide +kernel
theorem dX4_formulaLine_28 : decode cX4_formulaLine 28 = .ok (.invokevirtual 54, 3) := by decide +kernel
theorem dX4_formulaLine_31 : decode cX4_formulaLine 31 = .ok (.iload_n 2, 1) := by decide +kernel
theorem dX4_formulaLine_32 : decode cX4_formulaLine 32 = .ok (.ifCond .eq 10, 3) := by decide +kernel
theorem dX4_formulaLine_35 : decode cX4_formulaLine 35 = .ok (.aload_n 0, 1) := by decide +kernel
theorem dX4_formulaLine_36 : decode cX4_formulaLine 36 = .ok (.invokevirtual 219, 3) := by decide +kernel
theorem dX4_formulaLine_39 : decode cX4_formulaLine 39 = .ok (.goto 7, 3) := by decide +kernel
theorem dX4_formulaLine_42 : decode cX4_formulaLine 42 = .ok (.aload_n 0, 1) := by decide +kernel
theorem dX4_formulaLine_43 : decode cX4_formulaLine 43 = .ok (.invokevirtual 222, 3) := by decide +kernel
theorem dX4_formulaLine_46 : decode cX4_formulaLine 46 = .ok (.return_, 1) := by decide +kernel
theorem dX4_limit_0 : decode cX4_limit 0 = .ok (.iload_n 1, 1) := by decide +kernel
theorem dX4_limit_1 : decode cX4_limit 1 = .ok (.iload_n 2, 1) := by decide +kernel
theorem dX4_limit_2 : decode cX4_limit 2 = .ok (.if_icmp .lt 12, 3) := by decide +kernel
theorem dX4_limit_5 : decode cX4_limit 5 = .ok (.aload_n 0, 1) := by decide +kernel
theorem dX4_limit_6 : decode cX4_limit 6 = .ok (.getfield 14, 3) := by decide +kernel
theorem dX4_limit_9 : decode cX4_limit 9 = .ok (.bipush 6, 2) := by decide +kernel
theorem dX4_limit_11 : decode cX4_limit 11 = .ok (.invokevirtual 111, 3) := by decide +kernel
theorem dX4_limit_14 : decode cX4_limit 14 = .ok (.return_, 1) := by decide +kernel
theorem dX4_sign_0 : decode cX4_sign 0 = .ok (.aload_n 0, 1) := by decide +kernel
theorem dX4_sign_1 : decode cX4_sign 1 = .ok (.getfield 14, 3) := by decide +kernel
theorem dX4_sign_4 : decode cX4_sign 4 = .ok (.iload_n 1, 1) := by decide +kernel
theorem dX4_sign_5 : decode cX4_sign 5 = .ok (.invokevirtual 115, 3) := by decide +kernel
theorem dX4_sign_8 : decode cX4_sign 8 = .ok (.ifCond .ne 11, 3) := by decide +kernel
theorem dX4_sign_11 : decode cX4_sign 11 = .ok (.aload_n 0, 1) := by decide +kernel
theorem dX4_sign_12 : decode cX4_sign 12 = .ok (.getfield 14, 3) := by decide +kernel
theorem dX4_sign_15 : decode cX4_sign 15 = .ok (.iconst 1, 1) := by decide +kernel
theorem dX4_sign_16 : decode cX4_sign 16 = .ok (.invokevirtual 111, 3) := by decide +kernel
theorem dX4_sign_19 : decode cX4_sign 19 = .ok (.aload_n 0, 1) := by decide +kernel
theorem dX4_sign_20 : decode cX4_sign 20 = .ok (.getfield 14, 3) := by decide +kernel
theorem dX4_sign_23 : decode cX4_sign 23 = .ok (.invokevirtual 54, 3) := by decide +kernel
theorem dX4_sign_26 : decode cX4_sign 26 = .ok (.return_, 1) := by decide +kernel
theorem dX4_own_0 : decode cX4_own 0 = .ok (.aload_n 0, 1) := by decide +kernel
theorem dX4_own_1 : decode cX4_own 1 = .ok (.getfield 14, 3) := by decide +kernel
theorem dX4_own_4 : decode cX4_own 4 = .ok (.getfield 63, 3) := by decide +kernel
theorem dX4_own_7 : decode cX4_own 7 = .ok (.aload_n 1, 1) := by decide +kernel
theorem dX4_own_8 : decode cX4_own 8 = .ok (.if_acmp .eq 11, 3) := by decide +kernel
theorem dX4_own_11 : decode cX4_own 11 = .ok (.aload_n 0, 1) := by decide +kernel
theorem dX4_own_12 : decode cX4_own 12 = .ok (.getfield 14, 3) := by decide +kernel
theorem dX4_own_15 : decode cX4_own 15 = .ok (.iconst 1, 1) := by decide +kernel
theorem dX4_own_16 : decode cX4_own 16 = .ok (.invokevirtual 111, 3) := by decide +kernel
theorem dX4_own_19 : decode cX4_own 19 = .ok (.aload_n 0, 1) := by decide +kernel
theorem dX4_own_20 : decode cX4_own 20 = .ok (.getfield 14, 3) := by decide +kernel
theorem dX4_own_23 : decode cX4_own 23 = .ok (.invokevirtual 54, 3) := by decide +kernel
theorem dX4_own_26 : decode cX4_own 26 = .ok (.return_, 1) := by decide +kernel
theorem dX4_number_0 : decode cX4_number 0 = .ok (.aload_n 0, 1) := by decide +kernel
theorem dX4_number_1 : decode cX4_number 1 = .ok (.getfield 14, 3) := by decide +kernel
theorem dX4_number_4 : decode cX4_number 4 = .ok (.getfield 225, 3) := by decide +kernel
theorem dX4_number_7 : decode cX4_number 7 = .ok (.istore_n 3, 1) := by decide +kernel
theorem dX4_number_8 : decode cX4_number 8 = .ok (.aload_n 0, 1) := by decide +kernel
theorem dX4_number_9 : decode cX4_number 9 = .ok (.getfield 14, 3) := by decide +kernel
theorem dX4_number_12 : decode cX4_number 12 = .ok (.getfield 228, 3) := by decide +kernel
theorem dX4_number_15 : decode cX4_number 15 = .ok (.iconst 2, 1) := by decide +kernel
theorem dX4_number_16 : decode cX4_number 16 = .ok (.if_icmp .eq 14, 3) := by decide +kernel
theorem dX4_number_19 : decode cX4_number 19 = .ok (.aload_n 0, 1) := by decide +kernel
theorem dX4_number_20 : decode cX4_number 20 = .ok (.getfield 14, 3) := by decide +kernel
theorem dX4_number_23 : decode cX4_number 23 = .ok (.iconst 1, 1) := by decide +kernel
theorem dX4_number_24 : decode cX4_number 24 = .ok (.invokevirtual 111, 3) := by decide +kernel
theorem dX4_number_27 : decode cX4_number 27 = .ok (.goto 21, 3) := by decide +kernel
theorem dX4_number_30 : decode cX4_number 30 = .ok (.iload_n 3, 1) := by decide +kernel
theorem dX4_number_31 : decode cX4_number 31 = .ok (.iload_n 1, 1) := by decide +kernel
theorem dX4_number_32 : decode cX4_number 32 = .ok (.if_icmp .lt 8, 3) := by decide +kernel
theorem dX4_number_35 : decode cX4_number 35 = .ok (.iload_n 3, 1) := by decide +kernel
theorem dX4_number_36 : decode cX4_number 36 = .ok (.iload_n 2, 1) := by decide +kernel
theorem dX4_number_37 : decode cX4_number 37 = .ok (.if_icmp .le 11, 3) := by decide +kernel
theorem dX4_number_40 : decode cX4_number 40 = .ok (.aload_n 0, 1) := by decide +kernel
theorem dX4_number_41 : decode cX4_number 41 = .ok (.getfield 14, 3) := by decide +kernel
theorem dX4_number_44 : decode cX4_number 44 = .ok (.iconst 4, 1) := by decide +kernel
theorem dX4_number_45 : decode cX4_number 45 = .ok (.invokevirtual 111, 3) := by decide +kernel
theorem dX4_number_48 : decode cX4_number 48 = .ok (.aload_n 0, 1) := by decide +kernel
theorem dX4_number_49 : decode cX4_number 49 = .ok (.getfield 14, 3) := by decide +kernel
theorem dX4_number_52 : decode cX4_number 52 = .ok (.invokevirtual 54, 3) := by decide +kernel
theorem dX4_number_55 : decode cX4_number 55 = .ok (.aload_n 0, 1) := by decide +kernel
theorem dX4_number_56 : decode cX4_number 56 = .ok (.getfield 14, 3) := by decide +kernel
theorem dX4_number_59 : decode cX4_number 59 = .ok (.invokevirtual 39, 3) := by decide +kernel
theorem dX4_number_62 : decode cX4_number 62 = .ok (.ifCond .eq 7, 3) := by decide +kernel
theorem dX4_number_65 : decode cX4_number 65 = .ok (.iload_n 3, 1) := by decide +kernel
theorem dX4_number_66 : decode cX4_number 66 = .ok (.goto 4, 3) := by decide +kernel
theorem dX4_number_69 : decode cX4_number 69 = .ok (.iload_n 1, 1) := by decide +kernel
theorem dX4_number_70 : decode cX4_number 70 = .ok (.ireturn, 1) := by decide +kernel
theorem dX4_newName_0 : decode cX4_newName 0 = .ok (.aload_n 0, 1) := by decide +kernel
theorem dX4_newName_1 : decode cX4_newName 1 = .ok (.getfield 14, 3) := by decide +kernel
theorem dX4_newName_4 : decode cX4_newName 4 = .ok (.getfield 225, 3) := by decide +kernel
theorem dX4_newName_7 : decode cX4_newName 7 = .ok (.istore_n 1, 1) := by decide +kernel
theorem dX4_newName_8 : decode cX4_newName 8 = .ok (.aload_n 0, 1) := by decide +kernel
theorem dX4_newName_9 : decode cX4_newName 9 = .ok (.getfield 14, 3) := by decide +kernel
theorem dX4_newName_12 : decode cX4_newName 12 = .ok (.invokevirtual 231, 3) := by decide +kernel
theorem dX4_newName_15 : decode cX4_newName 15 = .ok (.ifCond .ne 14, 3) := by decide +kernel
theorem dX4_newName_18 : decode cX4_newName 18 = .ok (.aload_n 0, 1) := by decide +kernel
theorem dX4_newName_19 : decode cX4_newName 19 = .ok (.getfield 14, 3) := by decide +kernel
theorem dX4_newName_22 : decode cX4_newName 22 = .ok (.iconst 1, 1) := by decide +kernel
theorem dX4_newName_23 : decode cX4_newName 23 = .ok (.invokevirtual 111, 3) := by decide +kernel
theorem dX4_newName_26 : decode cX4_newName 26 = .ok (.goto 22, 3) := by decide +kernel
theorem dX4_newName_29 : decode cX4_newName 29 = .ok (.aload_n 0, 1) := by decide +kernel
theorem dX4_newName_30 : decode cX4_newName 30 = .ok (.getfield 20, 3) := by decide +kernel
theorem dX4_newName_33 : decode cX4_newName 33 = .ok (.iload_n 1, 1) := by decide +kernel
theorem dX4_newName_34 : decode cX4_newName 34 = .ok (.invokevirtual 234, 3) := by decide +kernel
theorem dX4_newName_37 : decode cX4_newName 37 = .ok (.ifCond .eq 11, 3) := by decide +kernel
theorem dX4_newName_40 : decode cX4_newName 40 = .ok (.aload_n 0, 1) := by decide +kernel
theorem dX4_newName_41 : decode cX4_newName 41 = .ok (.getfield 14, 3) := by decide +kernel
theorem dX4_newName_44 : decode cX4_newName 44 = .ok (.iconst 2, 1) := by decide +kernel
theorem dX4_newName_45 : decode cX4_newName 45 = .ok (.invokevirtual 111, 3) := by decide +kernel
theorem dX4_newName_48 : decode cX4_newName 48 = .ok (.aload_n 0, 1) := by decide +kernel
theorem dX4_newName_49 : decode cX4_newName 49 = .ok (.getfield 14, 3) := by decide +kernel
theorem dX4_newName_52 : decode cX4_newName 52 = .ok (.invokevirtual 54, 3) := by decide +kernel
theorem dX4_newName_55 : decode cX4_newName 55 = .ok (.iload_n 1, 1) := by decide +kernel
theorem dX4_newName_56 : decode cX4_newName 56 = .ok (.ireturn, 1) := by decide +kernel
theorem dX4_known_0 : decode cX4_known 0 = .ok (.iconst (-1), 1) := by decide +kernel
theorem dX4_known_1 : decode cX4_known 1 = .ok (.istore_n 3, 1) := by decide +kernel
theorem dX4_known_2 : decode cX4_known 2 = .ok (.aload_n 0, 1) := by decide +kernel
theorem dX4_known_3 : decode cX4_known 3 = .ok (.getfield 14, 3) := by decide +kernel
theorem dX4_known_6 : decode cX4_known 6 = .ok (.invokevirtual 231, 3) := by decide +kernel
theorem dX4_known_9 : decode cX4_known 9 = .ok (.ifCond .ne 14, 3) := by decide +kernel
theorem dX4_known_12 : decode cX4_known 12 = .ok (.aload_n 0, 1) := by decide +kernel
theorem dX4_known_13 : decode cX4_known 13 = .ok (.getfield 14, 3) := by decide +kernel
theorem dX4_known_16 : decode cX4_known 16 = .ok (.iconst 1, 1) := by decide +kernel
theorem dX4_known_17 : decode cX4_known 17 = .ok (.invokevirtual 111, 3) := by decide +kernel
theorem dX4_known_20 : decode cX4_known 20 = .ok (.goto 19, 3) := by decide +kernel
theorem dX4_known_23 : decode cX4_known 23 = .ok (.aload_n 0, 1) := by decide +kernel
theorem dX4_known_24 : decode cX4_known 24 = .ok (.getfield 20, 3) := by decide +kernel
theorem dX4_known_27 : decode cX4_known 27 = .ok (.iload_n 1, 1) := by decide +kernel
theorem dX4_known_28 : decode cX4_known 28 = .ok (.aload_n 0, 1) := by decide +kernel
theorem dX4_known_29 : decode cX4_known 29 = .ok (.getfield 14, 3) := by decide +kernel
theorem dX4_known_32 : decode cX4_known 32 = .ok (.getfield 225, 3) := by decide +kernel
theorem dX4_known_35 : decode cX4_known 35 = .ok (.invokevirtual 237, 3) := by decide +kernel
theorem dX4_known_38 : decode cX4_known 38 = .ok (.istore_n 3, 1) := by decide +kernel
theorem dX4_known_39 : decode cX4_known 39 = .ok (.iload_n 3, 1) := by decide +kernel
theorem dX4_known_40 : decode cX4_known 40 = .ok (.iconst (-1), 1) := by decide +kernel
theorem dX4_known_41 : decode cX4_known 41 = .ok (.if_icmp .eq 11, 3) := by decide +kernel
theorem dX4_known_44 : decode cX4_known 44 = .ok (.iload_n 2, 1) := by decide +kernel
theorem dX4_known_45 : decode cX4_known 45 = .ok (.iconst 1, 1) := by decide +kernel
theorem dX4_known_46 : decode cX4_known 46 = .ok (.iload_n 3, 1) := by decide +kernel
theorem dX4_known_47 : decode cX4_known 47 = .ok (.ishl, 1) := by decide +kernel
theorem dX4_known_48 : decode cX4_known 48 = .ok (.iand, 1) := by decide +kernel
theorem dX4_known_49 : decode cX4_known 49 = .ok (.ifCond .eq 13, 3) := by decide +kernel
theorem dX4_known_52 : decode cX4_known 52 = .ok (.aload_n 0, 1) := by decide +kernel
theorem dX4_known_53 : decode cX4_known 53 = .ok (.getfield 14, 3) := by decide +kernel
theorem dX4_known_56 : decode cX4_known 56 = .ok (.iconst 3, 1) := by decide +kernel
theorem dX4_known_57 : decode cX4_known 57 = .ok (.invokevirtual 111, 3) := by decide +kernel
theorem dX4_known_60 : decode cX4_known 60 = .ok (.iconst (-1), 1) := by decide +kernel
theorem dX4_known_61 : decode cX4_known 61 = .ok (.ireturn, 1) := by decide +kernel
theorem dX4_known_62 : decode cX4_known 62 = .ok (.aload_n 0, 1) := by decide +kernel
theorem dX4_known_63 : decode cX4_known 63 = .ok (.getfield 14, 3) := by decide +kernel
theorem dX4_known_66 : decode cX4_known 66 = .ok (.invokevirtual 54, 3) := by decide +kernel
theorem dX4_known_69 : decode cX4_known 69 = .ok (.iload_n 3, 1) := by decide +kernel
theorem dX4_known_70 : decode cX4_known 70 = .ok (.ireturn, 1) := by decide +kernel
theorem dX4_testPart_0 : decode cX4_testPart 0 = .ok (.aload_n 0, 1) := by decide +kernel
theorem dX4_testPart_1 : decode cX4_testPart 1 = .ok (.invokevirtual 240, 3) := by decide +kernel
theorem dX4_testPart_4 : decode cX4_testPart 4 = .ok (.iconst 0, 1) := by decide +kernel
theorem dX4_testPart_5 : decode cX4_testPart 5 = .ok (.istore_n 1, 1) := by decide +kernel
theorem dX4_testPart_6 : decode cX4_testPart 6 = .ok (.iload_n 1, 1) := by decide +kernel
theorem dX4_testPart_7 : decode cX4_testPart 7 = .ok (.sipush 1600, 3) := by decide +kernel
theorem dX4_testPart_10 : decode cX4_testPart 10 = .ok (.if_icmp .ge 42, 3) := by decide +kernel
theorem dX4_testPart_13 : decode cX4_testPart 13 = .ok (.aload_n 0, 1) := by decide +kernel
theorem dX4_testPart_14 : decode cX4_testPart 14 = .ok (.getfield 14, 3) := by decide +kernel
theorem dX4_testPart_17 : decode cX4_testPart 17 = .ok (.getfield 63, 3) := by decide +kernel
theorem dX4_testPart_20 : decode cX4_testPart 20 = .ok (.getstatic 243, 3) := by decide +kernel
theorem dX4_testPart_23 : decode cX4_testPart 23 = .ok (.if_acmp .ne 29, 3) := by decide +kernel
theorem dX4_testPart_26 : decode cX4_testPart 26 = .ok (.aload_n 0, 1) := by decide +kernel
theorem dX4_testPart_27 : decode cX4_testPart 27 = .ok (.getfield 14, 3) := by decide +kernel
theorem dX4_testPart_30 : decode cX4_testPart 30 = .ok (.invokevirtual 54, 3) := by decide +kernel
theorem dX4_testPart_33 : decode cX4_testPart 33 = .ok (.aload_n 0, 1) := by decide +kernel
theorem dX4_testPart_34 : decode cX4_testPart 34 = .ok (.invokevirtual 240, 3) := by decide +kernel
theorem dX4_testPart_37 : decode cX4_testPart 37 = .ok (.aload_n 0, 1) := by decide +kernel
theorem dX4_testPart_38 : decode cX4_testPart 38 = .ok (.getfield 30, 3) := by decide +kernel
theorem dX4_testPart_41 : decode cX4_testPart 41 = .ok (.bipush 12, 2) := by decide +kernel
theorem dX4_testPart_43 : decode cX4_testPart 43 = .ok (.invokevirtual 246, 3) := by decide +kernel
theorem dX4_testPart_46 : decode cX4_testPart 46 = .ok (.iinc 1 1, 3) := by decide +kernel
theorem dX4_testPart_49 : decode cX4_testPart 49 = .ok (.goto (-43), 3) := by decide +kernel
theorem dX4_testPart_52 : decode cX4_testPart 52 = .ok (.return_, 1) := by decide +kernel
theorem dX4_bothPart_0 : decode cX4_bothPart 0 = .ok (.aload_n 0, 1) := by decide +kernel
theorem dX4_bothPart_1 : decode cX4_bothPart 1 = .ok (.invokevirtual 249, 3) := by decide +kernel
theorem dX4_bothPart_4 : decode cX4_bothPart 4 = .ok (.iconst 0, 1) := by decide +kernel
theorem dX4_bothPart_5 : decode cX4_bothPart 5 = .ok (.istore_n 1, 1) := by decide +kernel
theorem dX4_bothPart_6 : decode cX4_bothPart 6 = .ok (.iload_n 1, 1) := by decide +kernel
theorem dX4_bothPart_7 : decode cX4_bothPart 7 = .ok (.sipush 1600, 3) := by decide +kernel
theorem dX4_bothPart_10 : decode cX4_bothPart 10 = .ok (.if_icmp .ge 42, 3) := by decide +kernel
theorem dX4_bothPart_13 : decode cX4_bothPart 13 = .ok (.aload_n 0, 1) := by decide +kernel
theorem dX4_bothPart_14 : decode cX4_bothPart 14 = .ok (.getfield 14, 3) := by decide +kernel
theorem dX4_bothPart_17 : decode cX4_bothPart 17 = .ok (.getfield 63, 3) := by decide +kernel
theorem dX4_bothPart_20 : decode cX4_bothPart 20 = .ok (.getstatic 252, 3) := by decide +kernel
theorem dX4_bothPart_23 : decode cX4_bothPart 23 = .ok (.if_acmp .ne 29, 3) := by decide +kernel
theorem dX4_bothPart_26 : decode cX4_bothPart 26 = .ok (.aload_n 0, 1) := by decide +kernel
theorem dX4_bothPart_27 : decode cX4_bothPart 27 = .ok (.getfield 14, 3) := by decide +kernel
theorem dX4_bothPart_30 : decode cX4_bothPart 30 = .ok (.invokevirtual 54, 3) := by decide +kernel
theorem dX4_bothPart_33 : decode cX4_bothPart 33 = .ok (.aload_n 0, 1) := by decide +kernel
theorem dX4_bothPart_34 : decode cX4_bothPart 34 = .ok (.invokevirtual 249, 3) := by decide +kernel
theorem dX4_bothPart_37 : decode cX4_bothPart 37 = .ok (.aload_n 0, 1) := by decide +kernel
theorem dX4_bothPart_38 : decode cX4_bothPart 38 = .ok (.getfield 30, 3) := by decide +kernel
theorem dX4_bothPart_41 : decode cX4_bothPart 41 = .ok (.bipush 11, 2) := by decide +kernel
theorem dX4_bothPart_43 : decode cX4_bothPart 43 = .ok (.invokevirtual 246, 3) := by decide +kernel
theorem dX4_bothPart_46 : decode cX4_bothPart 46 = .ok (.iinc 1 1, 3) := by decide +kernel
theorem dX4_bothPart_49 : decode cX4_bothPart 49 = .ok (.goto (-43), 3) := by decide +kernel
theorem dX4_bothPart_52 : decode cX4_bothPart 52 = .ok (.return_, 1) := by decide +kernel
theorem dX4_factPart_0 : decode cX4_factPart 0 = .ok (.aload_n 0, 1) := by decide +kernel
theorem dX4_factPart_1 : decode cX4_factPart 1 = .ok (.getfield 14, 3) := by decide +kernel
theorem dX4_factPart_4 : decode cX4_factPart 4 = .ok (.getfield 63, 3) := by decide +kernel
theorem dX4_factPart_7 : decode cX4_factPart 7 = .ok (.getstatic 255, 3) := by decide +kernel
theorem dX4_factPart_10 : decode cX4_factPart 10 = .ok (.if_acmp .ne 33, 3) := by decide +kernel
theorem dX4_factPart_13 : decode cX4_factPart 13 = .ok (.aload_n 0, 1) := by decide +kernel
theorem dX4_factPart_14 : decode cX4_factPart 14 = .ok (.invokevirtual 258, 3) := by decide +kernel
theorem dX4_factPart_17 : decode cX4_factPart 17 = .ok (.aload_n 0, 1) := by decide +kernel
theorem dX4_factPart_18 : decode cX4_factPart 18 = .ok (.invokevirtual 249, 3) := by decide +kernel
theorem dX4_factPart_21 : decode cX4_factPart 21 = .ok (.aload_n 0, 1) := by decide +kernel
theorem dX4_factPart_22 : decode cX4_factPart 22 = .ok (.dup, 1) := by decide +kernel
theorem dX4_factPart_23 : decode cX4_factPart 23 = .ok (.getfield 217, 3) := by decide +kernel
theorem dX4_factPart_26 : decode cX4_factPart 26 = .ok (.iconst 1, 1) := by decide +kernel
theorem dX4_factPart_27 : decode cX4_factPart 27 = .ok (.isub, 1) := by decide +kernel
theorem dX4_factPart_28 : decode cX4_factPart 28 = .ok (.putfield 217, 3) := by decide +kernel
theorem dX4_factPart_31 : decode cX4_factPart 31 = .ok (.aload_n 0, 1) := by decide +kernel
theorem dX4_factPart_32 : decode cX4_factPart 32 = .ok (.getfield 30, 3) := by decide +kernel
theorem dX4_factPart_35 : decode cX4_factPart 35 = .ok (.bipush 13, 2) := by decide +kernel
theorem dX4_factPart_37 : decode cX4_factPart 37 = .ok (.invokevirtual 246, 3) := by decide +kernel
theorem dX4_factPart_40 : decode cX4_factPart 40 = .ok (.goto 78, 3) := by decide +kernel
theorem dX4_factPart_43 : decode cX4_factPart 43 = .ok (.aload_n 0, 1) := by decide +kernel
theorem dX4_factPart_44 : decode cX4_factPart 44 = .ok (.getfield 14, 3) := by decide +kernel
theorem dX4_factPart_47 : decode cX4_factPart 47 = .ok (.bipush 91, 2) := by decide +kernel
theorem dX4_factPart_49 : decode cX4_factPart 49 = .ok (.invokevirtual 115, 3) := by decide +kernel
theorem dX4_factPart_52 : decode cX4_factPart 52 = .ok (.ifCond .eq 30, 3) := by decide +kernel
theorem dX4_factPart_55 : decode cX4_factPart 55 = .ok (.aload_n 0, 1) := by decide +kernel
theorem dX4_factPart_56 : decode cX4_factPart 56 = .ok (.invokevirtual 258, 3) := by decide +kernel
theorem dX4_factPart_59 : decode cX4_factPart 59 = .ok (.aload_n 0, 1) := by decide +kernel
theorem dX4_factPart_60 : decode cX4_factPart 60 = .ok (.invokevirtual 219, 3) := by decide +kernel
theorem dX4_factPart_63 : decode cX4_factPart 63 = .ok (.aload_n 0, 1) := by decide +kernel
theorem dX4_factPart_64 : decode cX4_factPart 64 = .ok (.dup, 1) := by decide +kernel
theorem dX4_factPart_65 : decode cX4_factPart 65 = .ok (.getfield 217, 3) := by decide +kernel
theorem dX4_factPart_68 : decode cX4_factPart 68 = .ok (.iconst 1, 1) := by decide +kernel
theorem dX4_factPart_69 : decode cX4_factPart 69 = .ok (.isub, 1) := by decide +kernel
theorem dX4_factPart_70 : decode cX4_factPart 70 = .ok (.putfield 217, 3) := by decide +kernel
theorem dX4_factPart_73 : decode cX4_factPart 73 = .ok (.aload_n 0, 1) := by decide +kernel
theorem dX4_factPart_74 : decode cX4_factPart 74 = .ok (.bipush 93, 2) := by decide +kernel
theorem dX4_factPart_76 : decode cX4_factPart 76 = .ok (.invokevirtual 261, 3) := by decide +kernel
theorem dX4_factPart_79 : decode cX4_factPart 79 = .ok (.goto 39, 3) := by decide +kernel
theorem dX4_factPart_82 : decode cX4_factPart 82 = .ok (.aload_n 0, 1) := by decide +kernel
theorem dX4_factPart_83 : decode cX4_factPart 83 = .ok (.getfield 14, 3) := by decide +kernel
theorem dX4_factPart_86 : decode cX4_factPart 86 = .ok (.getfield 63, 3) := by decide +kernel
theorem dX4_factPart_89 : decode cX4_factPart 89 = .ok (.getstatic 264, 3) := by decide +kernel
theorem dX4_factPart_92 : decode cX4_factPart 92 = .ok (.if_acmp .ne 22, 3) := by decide +kernel
theorem dX4_factPart_95 : decode cX4_factPart 95 = .ok (.aload_n 0, 1) := by decide +kernel
theorem dX4_factPart_96 : decode cX4_factPart 96 = .ok (.getfield 14, 3) := by decide +kernel
theorem dX4_factPart_99 : decode cX4_factPart 99 = .ok (.invokevirtual 54, 3) := by decide +kernel
theorem dX4_factPart_102 : decode cX4_factPart 102 = .ok (.aload_n 0, 1) := by decide +kernel
theorem dX4_factPart_103 : decode cX4_factPart 103 = .ok (.getfield 30, 3) := by decide +kernel
theorem dX4_factPart_106 : decode cX4_factPart 106 = .ok (.bipush 41, 2) := by decide +kernel
theorem dX4_factPart_108 : decode cX4_factPart 108 = .ok (.invokevirtual 246, 3) := by decide +kernel
theorem dX4_factPart_111 : decode cX4_factPart 111 = .ok (.goto 7, 3) := by decide +kernel
theorem dX4_factPart_114 : decode cX4_factPart 114 = .ok (.aload_n 0, 1) := by decide +kernel
theorem dX4_factPart_115 : decode cX4_factPart 115 = .ok (.invokevirtual 267, 3) := by decide +kernel
theorem dX4_factPart_118 : decode cX4_factPart 118 = .ok (.return_, 1) := by decide +kernel
theorem dX4_comparePart_0 : decode cX4_comparePart 0 = .ok (.aload_n 0, 1) := by decide +kernel
theorem dX4_comparePart_1 : decode cX4_comparePart 1 = .ok (.invokevirtual 222, 3) := by decide +kernel
theorem dX4_comparePart_4 : decode cX4_comparePart 4 = .ok (.aload_n 0, 1) := by decide +kernel
theorem dX4_comparePart_5 : decode cX4_comparePart 5 = .ok (.getfield 14, 3) := by decide +kernel
theorem dX4_comparePart_8 : decode cX4_comparePart 8 = .ok (.bipush 60, 2) := by decide +kernel
theorem dX4_comparePart_10 : decode cX4_comparePart 10 = .ok (.invokevirtual 115, 3) := by decide +kernel
theorem dX4_comparePart_13 : decode cX4_comparePart 13 = .ok (.ifCond .eq 8, 3) := by decide +kernel
theorem dX4_comparePart_16 : decode cX4_comparePart 16 = .ok (.bipush 8, 2) := by decide +kernel
theorem dX4_comparePart_18 : decode cX4_comparePart 18 = .ok (.goto 38, 3) := by decide +kernel
theorem dX4_comparePart_21 : decode cX4_comparePart 21 = .ok (.aload_n 0, 1) := by decide +kernel
theorem dX4_comparePart_22 : decode cX4_comparePart 22 = .ok (.getfield 14, 3) := by decide +kernel
theorem dX4_comparePart_25 : decode cX4_comparePart 25 = .ok (.bipush 62, 2) := by decide +kernel
theorem dX4_comparePart_27 : decode cX4_comparePart 27 = .ok (.invokevirtual 115, 3) := by decide +kernel
theorem dX4_comparePart_30 : decode cX4_comparePart 30 = .ok (.ifCond .eq 8, 3) := by decide +kernel
theorem dX4_comparePart_33 : decode cX4_comparePart 33 = .ok (.bipush 9, 2) := by decide +kernel
theorem dX4_comparePart_35 : decode cX4_comparePart 35 = .ok (.goto 21, 3) := by decide +kernel
theorem dX4_comparePart_38 : decode cX4_comparePart 38 = .ok (.aload_n 0, 1) := by decide +kernel
theorem dX4_comparePart_39 : decode cX4_comparePart 39 = .ok (.getfield 14, 3) := by decide +kernel
theorem dX4_comparePart_42 : decode cX4_comparePart 42 = .ok (.bipush 61, 2) := by decide +kernel
theorem dX4_comparePart_44 : decode cX4_comparePart 44 = .ok (.invokevirtual 115, 3) := by decide +kernel
theorem dX4_comparePart_47 : decode cX4_comparePart 47 = .ok (.ifCond .eq 8, 3) := by decide +kernel
theorem dX4_comparePart_50 : decode cX4_comparePart 50 = .ok (.bipush 10, 2) := by decide +kernel
theorem dX4_comparePart_52 : decode cX4_comparePart 52 = .ok (.goto 4, 3) := by decide +kernel
theorem dX4_comparePart_55 : decode cX4_comparePart 55 = .ok (.iconst (-1), 1) := by decide +kernel
theorem dX4_comparePart_56 : decode cX4_comparePart 56 = .ok (.istore_n 1, 1) := by decide +kernel
theorem dX4_comparePart_57 : decode cX4_comparePart 57 = .ok (.iload_n 1, 1) := by decide +kernel
theorem dX4_comparePart_58 : decode cX4_comparePart 58 = .ok (.iconst (-1), 1) := by decide +kernel
theorem dX4_comparePart_59 : decode cX4_comparePart 59 = .ok (.if_icmp .ne 12, 3) := by decide +kernel
theorem dX4_comparePart_62 : decode cX4_comparePart 62 = .ok (.aload_n 0, 1) := by decide +kernel
theorem dX4_comparePart_63 : decode cX4_comparePart 63 = .ok (.getfield 14, 3) := by decide +kernel
theorem dX4_comparePart_66 : decode cX4_comparePart 66 = .ok (.iconst 1, 1) := by decide +kernel
theorem dX4_comparePart_67 : decode cX4_comparePart 67 = .ok (.invokevirtual 111, 3) := by decide +kernel
theorem dX4_comparePart_70 : decode cX4_comparePart 70 = .ok (.return_, 1) := by decide +kernel
theorem dX4_comparePart_71 : decode cX4_comparePart 71 = .ok (.aload_n 0, 1) := by decide +kernel
theorem dX4_comparePart_72 : decode cX4_comparePart 72 = .ok (.getfield 14, 3) := by decide +kernel
theorem dX4_comparePart_75 : decode cX4_comparePart 75 = .ok (.invokevirtual 54, 3) := by decide +kernel
theorem dX4_comparePart_78 : decode cX4_comparePart 78 = .ok (.aload_n 0, 1) := by decide +kernel
theorem dX4_comparePart_79 : decode cX4_comparePart 79 = .ok (.invokevirtual 222, 3) := by decide +kernel
theorem dX4_comparePart_82 : decode cX4_comparePart 82 = .ok (.aload_n 0, 1) := by decide +kernel
theorem dX4_comparePart_83 : decode cX4_comparePart 83 = .ok (.getfield 30, 3) := by decide +kernel
theorem dX4_comparePart_86 : decode cX4_comparePart 86 = .ok (.iload_n 1, 1) := by decide +kernel
theorem dX4_comparePart_87 : decode cX4_comparePart 87 = .ok (.invokevirtual 246, 3) := by decide +kernel
theorem dX4_comparePart_90 : decode cX4_comparePart 90 = .ok (.return_, 1) := by decide +kernel
theorem dX4_sumPart_0 : decode cX4_sumPart 0 = .ok (.aload_n 0, 1) := by decide +kernel
theorem dX4_sumPart_1 : decode cX4_sumPart 1 = .ok (.invokevirtual 270, 3) := by decide +kernel
theorem dX4_sumPart_4 : decode cX4_sumPart 4 = .ok (.iconst 0, 1) := by decide +kernel
theorem dX4_sumPart_5 : decode cX4_sumPart 5 = .ok (.istore_n 1, 1) := by decide +kernel
theorem dX4_sumPart_6 : decode cX4_sumPart 6 = .ok (.iload_n 1, 1) := by decide +kernel
theorem dX4_sumPart_7 : decode cX4_sumPart 7 = .ok (.sipush 1600, 3) := by decide +kernel
theorem dX4_sumPart_10 : decode cX4_sumPart 10 = .ok (.if_icmp .ge 70, 3) := by decide +kernel
theorem dX4_sumPart_13 : decode cX4_sumPart 13 = .ok (.aload_n 0, 1) := by decide +kernel
theorem dX4_sumPart_14 : decode cX4_sumPart 14 = .ok (.getfield 14, 3) := by decide +kernel
theorem dX4_sumPart_17 : decode cX4_sumPart 17 = .ok (.bipush 43, 2) := by decide +kernel
theorem dX4_sumPart_19 : decode cX4_sumPart 19 = .ok (.invokevirtual 115, 3) := by decide +kernel
theorem dX4_sumPart_22 : decode cX4_sumPart 22 = .ok (.ifCond .ne 15, 3) := by decide +kernel
theorem dX4_sumPart_25 : decode cX4_sumPart 25 = .ok (.aload_n 0, 1) := by decide +kernel
theorem dX4_sumPart_26 : decode cX4_sumPart 26 = .ok (.getfield 14, 3) := by decide +kernel
theorem dX4_sumPart_29 : decode cX4_sumPart 29 = .ok (.bipush 45, 2) := by decide +kernel
theorem dX4_sumPart_31 : decode cX4_sumPart 31 = .ok (.invokevirtual 115, 3) := by decide +kernel
theorem dX4_sumPart_34 : decode cX4_sumPart 34 = .ok (.ifCond .eq 46, 3) := by decide +kernel
theorem dX4_sumPart_37 : decode cX4_sumPart 37 = .ok (.aload_n 0, 1) := by decide +kernel
theorem dX4_sumPart_38 : decode cX4_sumPart 38 = .ok (.getfield 14, 3) := by decide +kernel
theorem dX4_sumPart_41 : decode cX4_sumPart 41 = .ok (.bipush 43, 2) := by decide +kernel
theorem dX4_sumPart_43 : decode cX4_sumPart 43 = .ok (.invokevirtual 115, 3) := by decide +kernel
theorem dX4_sumPart_46 : decode cX4_sumPart 46 = .ok (.ifCond .eq 7, 3) := by decide +kernel
theorem dX4_sumPart_49 : decode cX4_sumPart 49 = .ok (.iconst 1, 1) := by decide +kernel
theorem dX4_sumPart_50 : decode cX4_sumPart 50 = .ok (.goto 4, 3) := by decide +kernel
theorem dX4_sumPart_53 : decode cX4_sumPart 53 = .ok (.iconst 2, 1) := by decide +kernel
theorem dX4_sumPart_54 : decode cX4_sumPart 54 = .ok (.istore_n 2, 1) := by decide +kernel
theorem dX4_sumPart_55 : decode cX4_sumPart 55 = .ok (.aload_n 0, 1) := by decide +kernel
theorem dX4_sumPart_56 : decode cX4_sumPart 56 = .ok (.getfield 14, 3) := by decide +kernel
theorem dX4_sumPart_59 : decode cX4_sumPart 59 = .ok (.invokevirtual 54, 3) := by decide +kernel
theorem dX4_sumPart_62 : decode cX4_sumPart 62 = .ok (.aload_n 0, 1) := by decide +kernel
theorem dX4_sumPart_63 : decode cX4_sumPart 63 = .ok (.invokevirtual 270, 3) := by decide +kernel
theorem dX4_sumPart_66 : decode cX4_sumPart 66 = .ok (.aload_n 0, 1) := by decide +kernel
theorem dX4_sumPart_67 : decode cX4_sumPart 67 = .ok (.getfield 30, 3) := by decide +kernel
theorem dX4_sumPart_70 : decode cX4_sumPart 70 = .ok (.iload_n 2, 1) := by decide +kernel
theorem dX4_sumPart_71 : decode cX4_sumPart 71 = .ok (.invokevirtual 246, 3) := by decide +kernel
theorem dX4_sumPart_74 : decode cX4_sumPart 74 = .ok (.iinc 1 1, 3) := by decide +kernel
theorem dX4_sumPart_77 : decode cX4_sumPart 77 = .ok (.goto (-71), 3) := by decide +kernel
theorem dX4_sumPart_80 : decode cX4_sumPart 80 = .ok (.return_, 1) := by decide +kernel
theorem dX4_productPart_0 : decode cX4_productPart 0 = .ok (.aload_n 0, 1) := by decide +kernel
theorem dX4_productPart_1 : decode cX4_productPart 1 = .ok (.invokevirtual 273, 3) := by decide +kernel
theorem dX4_productPart_4 : decode cX4_productPart 4 = .ok (.iconst 0, 1) := by decide +kernel
theorem dX4_productPart_5 : decode cX4_productPart 5 = .ok (.istore_n 1, 1) := by decide +kernel
theorem dX4_productPart_6 : decode cX4_productPart 6 = .ok (.iload_n 1, 1) := by decide +kernel
theorem dX4_productPart_7 : decode cX4_productPart 7 = .ok (.sipush 1600, 3) := by decide +kernel
theorem dX4_productPart_10 : decode cX4_productPart 10 = .ok (.if_icmp .ge 84, 3) := by decide +kernel
theorem dX4_productPart_13 : decode cX4_productPart 13 = .ok (.aload_n 0, 1) := by decide +kernel
theorem dX4_productPart_14 : decode cX4_productPart 14 = .ok (.getfield 14, 3) := by decide +kernel
theorem dX4_productPart_17 : decode cX4_productPart 17 = .ok (.bipush 42, 2) := by decide +kernel
theorem dX4_productPart_19 : decode cX4_productPart 19 = .ok (.invokevirtual 115, 3) := by decide +kernel
theorem dX4_productPart_22 : decode cX4_productPart 22 = .ok (.ifCond .eq 7, 3) := by decide +kernel
theorem dX4_productPart_25 : decode cX4_productPart 25 = .ok (.iconst 3, 1) := by decide +kernel
theorem dX4_productPart_26 : decode cX4_productPart 26 = .ok (.goto 36, 3) := by decide +kernel
theorem dX4_productPart_29 : decode cX4_productPart 29 = .ok (.aload_n 0, 1) := by decide +kernel
theorem dX4_productPart_30 : decode cX4_productPart 30 = .ok (.getfield 14, 3) := by decide +kernel
theorem dX4_productPart_33 : decode cX4_productPart 33 = .ok (.bipush 47, 2) := by decide +kernel
theorem dX4_productPart_35 : decode cX4_productPart 35 = .ok (.invokevirtual 115, 3) := by decide +kernel
theorem dX4_productPart_38 : decode cX4_productPart 38 = .ok (.ifCond .eq 7, 3) := by decide +kernel
theorem dX4_productPart_41 : decode cX4_productPart 41 = .ok (.iconst 4, 1) := by decide +kernel
theorem dX4_productPart_42 : decode cX4_productPart 42 = .ok (.goto 20, 3) := by decide +kernel
theorem dX4_productPart_45 : decode cX4_productPart 45 = .ok (.aload_n 0, 1) := by decide +kernel
theorem dX4_productPart_46 : decode cX4_productPart 46 = .ok (.getfield 14, 3) := by decide +kernel
theorem dX4_productPart_49 : decode cX4_productPart 49 = .ok (.bipush 37, 2) := by decide +kernel
theorem dX4_productPart_51 : decode cX4_productPart 51 = .ok (.invokevirtual 115, 3) := by decide +kernel
theorem dX4_productPart_54 : decode cX4_productPart 54 = .ok (.ifCond .eq 7, 3) := by decide +kernel
theorem dX4_productPart_57 : decode cX4_productPart 57 = .ok (.iconst 5, 1) := by decide +kernel
theorem dX4_productPart_58 : decode cX4_productPart 58 = .ok (.goto 4, 3) := by decide +kernel
theorem dX4_productPart_61 : decode cX4_productPart 61 = .ok (.iconst (-1), 1) := by decide +kernel
theorem dX4_productPart_62 : decode cX4_productPart 62 = .ok (.istore_n 2, 1) := by decide +kernel
theorem dX4_productPart_63 : decode cX4_productPart 63 = .ok (.iload_n 2, 1) := by decide +kernel
theorem dX4_productPart_64 : decode cX4_productPart 64 = .ok (.iconst (-1), 1) := by decide +kernel
theorem dX4_productPart_65 : decode cX4_productPart 65 = .ok (.if_icmp .ne 4, 3) := by decide +kernel
theorem dX4_productPart_68 : decode cX4_productPart 68 = .ok (.return_, 1) := by decide +kernel
theorem dX4_productPart_69 : decode cX4_productPart 69 = .ok (.aload_n 0, 1) := by decide +kernel
theorem dX4_productPart_70 : decode cX4_productPart 70 = .ok (.getfield 14, 3) := by decide +kernel
theorem dX4_productPart_73 : decode cX4_productPart 73 = .ok (.invokevirtual 54, 3) := by decide +kernel
theorem dX4_productPart_76 : decode cX4_productPart 76 = .ok (.aload_n 0, 1) := by decide +kernel
theorem dX4_productPart_77 : decode cX4_productPart 77 = .ok (.invokevirtual 273, 3) := by decide +kernel
theorem dX4_productPart_80 : decode cX4_productPart 80 = .ok (.aload_n 0, 1) := by decide +kernel
theorem dX4_productPart_81 : decode cX4_productPart 81 = .ok (.getfield 30, 3) := by decide +kernel
theorem dX4_productPart_84 : decode cX4_productPart 84 = .ok (.iload_n 2, 1) := by decide +kernel
theorem dX4_productPart_85 : decode cX4_productPart 85 = .ok (.invokevirtual 246, 3) := by decide +kernel
theorem dX4_productPart_88 : decode cX4_productPart 88 = .ok (.iinc 1 1, 3) := by decide +kernel
theorem dX4_productPart_91 : decode cX4_productPart 91 = .ok (.goto (-85), 3) := by decide +kernel
theorem dX4_productPart_94 : decode cX4_productPart 94 = .ok (.return_, 1) := by decide +kernel
theorem dX4_singlePart_0 : decode cX4_singlePart 0 = .ok (.aload_n 0, 1) := by decide +kernel
theorem dX4_singlePart_1 : decode cX4_singlePart 1 = .ok (.getfield 14, 3) := by decide +kernel
theorem dX4_singlePart_4 : decode cX4_singlePart 4 = .ok (.getfield 228, 3) := by decide +kernel
theorem dX4_singlePart_7 : decode cX4_singlePart 7 = .ok (.iconst 2, 1) := by decide +kernel
theorem dX4_singlePart_8 : decode cX4_singlePart 8 = .ok (.if_icmp .ne 30, 3) := by decide +kernel
theorem dX4_singlePart_11 : decode cX4_singlePart 11 = .ok (.aload_n 0, 1) := by decide +kernel
theorem dX4_singlePart_12 : decode cX4_singlePart 12 = .ok (.getfield 30, 3) := by decide +kernel
theorem dX4_singlePart_15 : decode cX4_singlePart 15 = .ok (.bipush 40, 2) := by decide +kernel
theorem dX4_singlePart_17 : decode cX4_singlePart 17 = .ok (.aload_n 0, 1) := by decide +kernel
theorem dX4_singlePart_18 : decode cX4_singlePart 18 = .ok (.getfield 14, 3) := by decide +kernel
theorem dX4_singlePart_21 : decode cX4_singlePart 21 = .ok (.getfield 225, 3) := by decide +kernel
theorem dX4_singlePart_24 : decode cX4_singlePart 24 = .ok (.iadd, 1) := by decide +kernel
theorem dX4_singlePart_25 : decode cX4_singlePart 25 = .ok (.invokevirtual 246, 3) := by decide +kernel
theorem dX4_singlePart_28 : decode cX4_singlePart 28 = .ok (.aload_n 0, 1) := by decide +kernel
theorem dX4_singlePart_29 : decode cX4_singlePart 29 = .ok (.getfield 14, 3) := by decide +kernel
theorem dX4_singlePart_32 : decode cX4_singlePart 32 = .ok (.invokevirtual 54, 3) := by decide +kernel
theorem dX4_singlePart_35 : decode cX4_singlePart 35 = .ok (.goto 122, 3) := by decide +kernel
theorem dX4_singlePart_38 : decode cX4_singlePart 38 = .ok (.aload_n 0, 1) := by decide +kernel
theorem dX4_singlePart_39 : decode cX4_singlePart 39 = .ok (.getfield 14, 3) := by decide +kernel
theorem dX4_singlePart_42 : decode cX4_singlePart 42 = .ok (.bipush 40, 2) := by decide +kernel
theorem dX4_singlePart_44 : decode cX4_singlePart 44 = .ok (.invokevirtual 115, 3) := by decide +kernel
theorem dX4_singlePart_47 : decode cX4_singlePart 47 = .ok (.ifCond .eq 30, 3) := by decide +kernel
theorem dX4_singlePart_50 : decode cX4_singlePart 50 = .ok (.aload_n 0, 1) := by decide +kernel
theorem dX4_singlePart_51 : decode cX4_singlePart 51 = .ok (.invokevirtual 258, 3) := by decide +kernel
theorem dX4_singlePart_54 : decode cX4_singlePart 54 = .ok (.aload_n 0, 1) := by decide +kernel
theorem dX4_singlePart_55 : decode cX4_singlePart 55 = .ok (.invokevirtual 222, 3) := by decide +kernel
theorem dX4_singlePart_58 : decode cX4_singlePart 58 = .ok (.aload_n 0, 1) := by decide +kernel
theorem dX4_singlePart_59 : decode cX4_singlePart 59 = .ok (.dup, 1) := by decide +kernel
theorem dX4_singlePart_60 : decode cX4_singlePart 60 = .ok (.getfield 217, 3) := by decide +kernel
theorem dX4_singlePart_63 : decode cX4_singlePart 63 = .ok (.iconst 1, 1) := by decide +kernel
theorem dX4_singlePart_64 : decode cX4_singlePart 64 = .ok (.isub, 1) := by decide +kernel
theorem dX4_singlePart_65 : decode cX4_singlePart 65 = .ok (.putfield 217, 3) := by decide +kernel
theorem dX4_singlePart_68 : decode cX4_singlePart 68 = .ok (.aload_n 0, 1) := by decide +kernel
theorem dX4_singlePart_69 : decode cX4_singlePart 69 = .ok (.bipush 41, 2) := by decide +kernel
theorem dX4_singlePart_71 : decode cX4_singlePart 71 = .ok (.invokevirtual 261, 3) := by decide +kernel
theorem dX4_singlePart_74 : decode cX4_singlePart 74 = .ok (.goto 83, 3) := by decide +kernel
theorem dX4_singlePart_77 : decode cX4_singlePart 77 = .ok (.aload_n 0, 1) := by decide +kernel
theorem dX4_singlePart_78 : decode cX4_singlePart 78 = .ok (.getfield 14, 3) := by decide +kernel
theorem dX4_singlePart_81 : decode cX4_singlePart 81 = .ok (.getfield 63, 3) := by decide +kernel
theorem dX4_singlePart_84 : decode cX4_singlePart 84 = .ok (.getstatic 276, 3) := by decide +kernel
theorem dX4_singlePart_87 : decode cX4_singlePart 87 = .ok (.if_acmp .ne 12, 3) := by decide +kernel
theorem dX4_singlePart_90 : decode cX4_singlePart 90 = .ok (.aload_n 0, 1) := by decide +kernel
theorem dX4_singlePart_91 : decode cX4_singlePart 91 = .ok (.bipush 6, 2) := by decide +kernel
theorem dX4_singlePart_93 : decode cX4_singlePart 93 = .ok (.invokevirtual 279, 3) := by decide +kernel
theorem dX4_singlePart_96 : decode cX4_singlePart 96 = .ok (.goto 61, 3) := by decide +kernel
theorem dX4_singlePart_99 : decode cX4_singlePart 99 = .ok (.aload_n 0, 1) := by decide +kernel
theorem dX4_singlePart_100 : decode cX4_singlePart 100 = .ok (.getfield 14, 3) := by decide +kernel
theorem dX4_singlePart_103 : decode cX4_singlePart 103 = .ok (.getfield 63, 3) := by decide +kernel
theorem dX4_singlePart_106 : decode cX4_singlePart 106 = .ok (.getstatic 282, 3) := by decide +kernel
theorem dX4_singlePart_109 : decode cX4_singlePart 109 = .ok (.if_acmp .ne 12, 3) := by decide +kernel
theorem dX4_singlePart_112 : decode cX4_singlePart 112 = .ok (.aload_n 0, 1) := by decide +kernel
theorem dX4_singlePart_113 : decode cX4_singlePart 113 = .ok (.bipush 7, 2) := by decide +kernel
theorem dX4_singlePart_115 : decode cX4_singlePart 115 = .ok (.invokevirtual 279, 3) := by decide +kernel
theorem dX4_singlePart_118 : decode cX4_singlePart 118 = .ok (.goto 39, 3) := by decide +kernel
theorem dX4_singlePart_121 : decode cX4_singlePart 121 = .ok (.aload_n 0, 1) := by decide +kernel
theorem dX4_singlePart_122 : decode cX4_singlePart 122 = .ok (.getfield 14, 3) := by decide +kernel
theorem dX4_singlePart_125 : decode cX4_singlePart 125 = .ok (.getfield 63, 3) := by decide +kernel
theorem dX4_singlePart_128 : decode cX4_singlePart 128 = .ok (.getstatic 285, 3) := by decide +kernel
theorem dX4_singlePart_131 : decode cX4_singlePart 131 = .ok (.if_acmp .ne 12, 3) := by decide +kernel
theorem dX4_singlePart_134 : decode cX4_singlePart 134 = .ok (.aload_n 0, 1) := by decide +kernel
theorem dX4_singlePart_135 : decode cX4_singlePart 135 = .ok (.bipush 14, 2) := by decide +kernel
theorem dX4_singlePart_137 : decode cX4_singlePart 137 = .ok (.invokevirtual 279, 3) := by decide +kernel
theorem dX4_singlePart_140 : decode cX4_singlePart 140 = .ok (.goto 17, 3) := by decide +kernel
theorem dX4_singlePart_143 : decode cX4_singlePart 143 = .ok (.aload_n 0, 1) := by decide +kernel
theorem dX4_singlePart_144 : decode cX4_singlePart 144 = .ok (.aload_n 0, 1) := by decide +kernel
theorem dX4_singlePart_145 : decode cX4_singlePart 145 = .ok (.getfield 14, 3) := by decide +kernel
theorem dX4_singlePart_148 : decode cX4_singlePart 148 = .ok (.getfield 63, 3) := by decide +kernel
theorem dX4_singlePart_151 : decode cX4_singlePart 151 = .ok (.getfield 288, 3) := by decide +kernel
theorem dX4_singlePart_154 : decode cX4_singlePart 154 = .ok (.invokevirtual 291, 3) := by decide +kernel
theorem dX4_singlePart_157 : decode cX4_singlePart 157 = .ok (.return_, 1) := by decide +kernel
theorem dX4_chosenPart_0 : decode cX4_chosenPart 0 = .ok (.aload_n 0, 1) := by decide +kernel
theorem dX4_chosenPart_1 : decode cX4_chosenPart 1 = .ok (.getfield 14, 3) := by decide +kernel
theorem dX4_chosenPart_4 : decode cX4_chosenPart 4 = .ok (.invokevirtual 54, 3) := by decide +kernel
theorem dX4_chosenPart_7 : decode cX4_chosenPart 7 = .ok (.aload_n 0, 1) := by decide +kernel
theorem dX4_chosenPart_8 : decode cX4_chosenPart 8 = .ok (.getfield 14, 3) := by decide +kernel
theorem dX4_chosenPart_11 : decode cX4_chosenPart 11 = .ok (.bipush 40, 2) := by decide +kernel
theorem dX4_chosenPart_13 : decode cX4_chosenPart 13 = .ok (.invokevirtual 115, 3) := by decide +kernel
theorem dX4_chosenPart_16 : decode cX4_chosenPart 16 = .ok (.ifCond .ne 12, 3) := by decide +kernel
theorem dX4_chosenPart_19 : decode cX4_chosenPart 19 = .ok (.aload_n 0, 1) := by decide +kernel
theorem dX4_chosenPart_20 : decode cX4_chosenPart 20 = .ok (.getfield 14, 3) := by decide +kernel
theorem dX4_chosenPart_23 : decode cX4_chosenPart 23 = .ok (.iconst 1, 1) := by decide +kernel
theorem dX4_chosenPart_24 : decode cX4_chosenPart 24 = .ok (.invokevirtual 111, 3) := by decide +kernel
theorem dX4_chosenPart_27 : decode cX4_chosenPart 27 = .ok (.return_, 1) := by decide +kernel
theorem dX4_chosenPart_28 : decode cX4_chosenPart 28 = .ok (.aload_n 0, 1) := by decide +kernel
theorem dX4_chosenPart_29 : decode cX4_chosenPart 29 = .ok (.invokevirtual 258, 3) := by decide +kernel
theorem dX4_chosenPart_32 : decode cX4_chosenPart 32 = .ok (.iload_n 1, 1) := by decide +kernel
theorem dX4_chosenPart_33 : decode cX4_chosenPart 33 = .ok (.bipush 14, 2) := by decide +kernel
theorem dX4_chosenPart_35 : decode cX4_chosenPart 35 = .ok (.if_icmp .ne 13, 3) := by decide +kernel
theorem dX4_chosenPart_38 : decode cX4_chosenPart 38 = .ok (.aload_n 0, 1) := by decide +kernel
theorem dX4_chosenPart_39 : decode cX4_chosenPart 39 = .ok (.invokevirtual 219, 3) := by decide +kernel
theorem dX4_chosenPart_42 : decode cX4_chosenPart 42 = .ok (.aload_n 0, 1) := by decide +kernel
theorem dX4_chosenPart_43 : decode cX4_chosenPart 43 = .ok (.bipush 44, 2) := by decide +kernel
theorem dX4_chosenPart_45 : decode cX4_chosenPart 45 = .ok (.invokevirtual 261, 3) := by decide +kernel
theorem dX4_chosenPart_48 : decode cX4_chosenPart 48 = .ok (.aload_n 0, 1) := by decide +kernel
theorem dX4_chosenPart_49 : decode cX4_chosenPart 49 = .ok (.invokevirtual 222, 3) := by decide +kernel
theorem dX4_chosenPart_52 : decode cX4_chosenPart 52 = .ok (.aload_n 0, 1) := by decide +kernel
theorem dX4_chosenPart_53 : decode cX4_chosenPart 53 = .ok (.bipush 44, 2) := by decide +kernel
theorem dX4_chosenPart_55 : decode cX4_chosenPart 55 = .ok (.invokevirtual 261, 3) := by decide +kernel
theorem dX4_chosenPart_58 : decode cX4_chosenPart 58 = .ok (.aload_n 0, 1) := by decide +kernel
theorem dX4_chosenPart_59 : decode cX4_chosenPart 59 = .ok (.invokevirtual 222, 3) := by decide +kernel
theorem dX4_chosenPart_62 : decode cX4_chosenPart 62 = .ok (.aload_n 0, 1) := by decide +kernel
theorem dX4_chosenPart_63 : decode cX4_chosenPart 63 = .ok (.dup, 1) := by decide +kernel
theorem dX4_chosenPart_64 : decode cX4_chosenPart 64 = .ok (.getfield 217, 3) := by decide +kernel
theorem dX4_chosenPart_67 : decode cX4_chosenPart 67 = .ok (.iconst 1, 1) := by decide +kernel
theorem dX4_chosenPart_68 : decode cX4_chosenPart 68 = .ok (.isub, 1) := by decide +kernel
theorem dX4_chosenPart_69 : decode cX4_chosenPart 69 = .ok (.putfield 217, 3) := by decide +kernel
theorem dX4_chosenPart_72 : decode cX4_chosenPart 72 = .ok (.aload_n 0, 1) := by decide +kernel
theorem dX4_chosenPart_73 : decode cX4_chosenPart 73 = .ok (.bipush 41, 2) := by decide +kernel
theorem dX4_chosenPart_75 : decode cX4_chosenPart 75 = .ok (.invokevirtual 261, 3) := by decide +kernel
theorem dX4_chosenPart_78 : decode cX4_chosenPart 78 = .ok (.aload_n 0, 1) := by decide +kernel
theorem dX4_chosenPart_79 : decode cX4_chosenPart 79 = .ok (.getfield 30, 3) := by decide +kernel
theorem dX4_chosenPart_82 : decode cX4_chosenPart 82 = .ok (.iload_n 1, 1) := by decide +kernel
theorem dX4_chosenPart_83 : decode cX4_chosenPart 83 = .ok (.invokevirtual 246, 3) := by decide +kernel
theorem dX4_chosenPart_86 : decode cX4_chosenPart 86 = .ok (.return_, 1) := by decide +kernel
theorem dX4_factWord_0 : decode cX4_factWord 0 = .ok (.iload_n 1, 1) := by decide +kernel
theorem dX4_factWord_1 : decode cX4_factWord 1 = .ok (.iconst (-1), 1) := by decide +kernel
theorem dX4_factWord_2 : decode cX4_factWord 2 = .ok (.if_icmp .eq 20, 3) := by decide +kernel
theorem dX4_factWord_5 : decode cX4_factWord 5 = .ok (.aload_n 0, 1) := by decide +kernel
theorem dX4_factWord_6 : decode cX4_factWord 6 = .ok (.getfield 213, 3) := by decide +kernel
theorem dX4_factWord_9 : decode cX4_factWord 9 = .ok (.ifCond .ne 22, 3) := by decide +kernel
theorem dX4_factWord_12 : decode cX4_factWord 12 = .ok (.iload_n 1, 1) := by decide +kernel
theorem dX4_factWord_13 : decode cX4_factWord 13 = .ok (.getstatic 294, 3) := by decide +kernel
theorem dX4_factWord_16 : decode cX4_factWord 16 = .ok (.getfield 288, 3) := by decide +kernel
theorem dX4_factWord_19 : decode cX4_factWord 19 = .ok (.if_icmp .lt 12, 3) := by decide +kernel
theorem dX4_factWord_22 : decode cX4_factWord 22 = .ok (.aload_n 0, 1) := by decide +kernel
theorem dX4_factWord_23 : decode cX4_factWord 23 = .ok (.getfield 14, 3) := by decide +kernel
theorem dX4_factWord_26 : decode cX4_factWord 26 = .ok (.iconst 1, 1) := by decide +kernel
theorem dX4_factWord_27 : decode cX4_factWord 27 = .ok (.invokevirtual 111, 3) := by decide +kernel
theorem dX4_factWord_30 : decode cX4_factWord 30 = .ok (.return_, 1) := by decide +kernel
theorem dX4_factWord_31 : decode cX4_factWord 31 = .ok (.aload_n 0, 1) := by decide +kernel
theorem dX4_factWord_32 : decode cX4_factWord 32 = .ok (.getfield 30, 3) := by decide +kernel
theorem dX4_factWord_35 : decode cX4_factWord 35 = .ok (.bipush 20, 2) := by decide +kernel
theorem dX4_factWord_37 : decode cX4_factWord 37 = .ok (.iload_n 1, 1) := by decide +kernel
theorem dX4_factWord_38 : decode cX4_factWord 38 = .ok (.iadd, 1) := by decide +kernel
theorem dX4_factWord_39 : decode cX4_factWord 39 = .ok (.invokevirtual 246, 3) := by decide +kernel
theorem dX4_factWord_42 : decode cX4_factWord 42 = .ok (.aload_n 0, 1) := by decide +kernel
theorem dX4_factWord_43 : decode cX4_factWord 43 = .ok (.getfield 14, 3) := by decide +kernel
theorem dX4_factWord_46 : decode cX4_factWord 46 = .ok (.invokevirtual 54, 3) := by decide +kernel
theorem dX4_factWord_49 : decode cX4_factWord 49 = .ok (.return_, 1) := by decide +kernel
theorem dX4_goDeeper_0 : decode cX4_goDeeper 0 = .ok (.aload_n 0, 1) := by decide +kernel
theorem dX4_goDeeper_1 : decode cX4_goDeeper 1 = .ok (.getfield 217, 3) := by decide +kernel
theorem dX4_goDeeper_4 : decode cX4_goDeeper 4 = .ok (.bipush 7, 2) := by decide +kernel
theorem dX4_goDeeper_6 : decode cX4_goDeeper 6 = .ok (.if_icmp .lt 11, 3) := by decide +kernel
theorem dX4_goDeeper_9 : decode cX4_goDeeper 9 = .ok (.aload_n 0, 1) := by decide +kernel
theorem dX4_goDeeper_10 : decode cX4_goDeeper 10 = .ok (.getfield 14, 3) := by decide +kernel
theorem dX4_goDeeper_13 : decode cX4_goDeeper 13 = .ok (.iconst 5, 1) := by decide +kernel
theorem dX4_goDeeper_14 : decode cX4_goDeeper 14 = .ok (.invokevirtual 111, 3) := by decide +kernel
theorem dX4_goDeeper_17 : decode cX4_goDeeper 17 = .ok (.aload_n 0, 1) := by decide +kernel
theorem dX4_goDeeper_18 : decode cX4_goDeeper 18 = .ok (.dup, 1) := by decide +kernel
theorem dX4_goDeeper_19 : decode cX4_goDeeper 19 = .ok (.getfield 217, 3) := by decide +kernel
theorem dX4_goDeeper_22 : decode cX4_goDeeper 22 = .ok (.iconst 1, 1) := by decide +kernel
theorem dX4_goDeeper_23 : decode cX4_goDeeper 23 = .ok (.iadd, 1) := by decide +kernel
theorem dX4_goDeeper_24 : decode cX4_goDeeper 24 = .ok (.putfield 217, 3) := by decide +kernel
theorem dX4_goDeeper_27 : decode cX4_goDeeper 27 = .ok (.aload_n 0, 1) := by decide +kernel
theorem dX4_goDeeper_28 : decode cX4_goDeeper 28 = .ok (.getfield 14, 3) := by decide +kernel
theorem dX4_goDeeper_31 : decode cX4_goDeeper 31 = .ok (.invokevirtual 54, 3) := by decide +kernel
theorem dX4_goDeeper_34 : decode cX4_goDeeper 34 = .ok (.return_, 1) := by decide +kernel
theorem dX5_goAhead_0 : decode cX5_goAhead 0 = .ok (.aload_n 0, 1) := by decide +kernel
theorem dX5_goAhead_1 : decode cX5_goAhead 1 = .ok (.getfield 23, 3) := by decide +kernel
theorem dX5_goAhead_4 : decode cX5_goAhead 4 = .ok (.aload_n 1, 1) := by decide +kernel
theorem dX5_goAhead_5 : decode cX5_goAhead 5 = .ok (.invokevirtual 27, 3) := by decide +kernel
theorem dX5_goAhead_8 : decode cX5_goAhead 8 = .ok (.aload_n 0, 1) := by decide +kernel
theorem dX5_goAhead_9 : decode cX5_goAhead 9 = .ok (.getfield 23, 3) := by decide +kernel
theorem dX5_goAhead_12 : decode cX5_goAhead 12 = .ok (.dup, 1) := by decide +kernel
theorem dX5_goAhead_13 : decode cX5_goAhead 13 = .ok (.getfield 31, 3) := by decide +kernel
theorem dX5_goAhead_16 : decode cX5_goAhead 16 = .ok (.iload_n 3, 1) := by decide +kernel
theorem dX5_goAhead_17 : decode cX5_goAhead 17 = .ok (.ior, 1) := by decide +kernel
theorem dX5_goAhead_18 : decode cX5_goAhead 18 = .ok (.putfield 31, 3) := by decide +kernel
theorem dX5_goAhead_21 : decode cX5_goAhead 21 = .ok (.iconst 0, 1) := by decide +kernel
theorem dX5_goAhead_22 : decode cX5_goAhead 22 = .ok (.istore 4, 2) := by decide +kernel
theorem dX5_goAhead_24 : decode cX5_goAhead 24 = .ok (.iload 4, 2) := by decide +kernel
theorem dX5_goAhead_26 : decode cX5_goAhead 26 = .ok (.iload_n 2, 1) := by decide +kernel
theorem dX5_goAhead_27 : decode cX5_goAhead 27 = .ok (.if_icmp .ge 17, 3) := by decide +kernel
theorem dX5_goAhead_30 : decode cX5_goAhead 30 = .ok (.aload_n 0, 1) := by decide +kernel
theorem dX5_goAhead_31 : decode cX5_goAhead 31 = .ok (.getfield 23, 3) := by decide +kernel
theorem dX5_goAhead_34 : decode cX5_goAhead 34 = .ok (.iconst 0, 1) := by decide +kernel
theorem dX5_goAhead_35 : decode cX5_goAhead 35 = .ok (.invokevirtual 35, 3) := by decide +kernel
theorem dX5_goAhead_38 : decode cX5_goAhead 38 = .ok (.iinc 4 1, 3) := by decide +kernel
theorem dX5_goAhead_41 : decode cX5_goAhead 41 = .ok (.goto (-17), 3) := by decide +kernel
theorem dX5_goAhead_44 : decode cX5_goAhead 44 = .ok (.aload_n 0, 1) := by decide +kernel
theorem dX5_goAhead_45 : decode cX5_goAhead 45 = .ok (.getfield 23, 3) := by decide +kernel
theorem dX5_goAhead_48 : decode cX5_goAhead 48 = .ok (.iconst 3, 1) := by decide +kernel
theorem dX5_goAhead_49 : decode cX5_goAhead 49 = .ok (.invokevirtual 39, 3) := by decide +kernel
theorem dX5_goAhead_52 : decode cX5_goAhead 52 = .ok (.invokestatic 43, 3) := by decide +kernel
theorem dX5_goAhead_55 : decode cX5_goAhead 55 = .ok (.ireturn, 1) := by decide +kernel
theorem dX5_firstBuilt_0 : decode cX5_firstBuilt 0 = .ok (.aload_n 0, 1) := by decide +kernel
theorem dX5_firstBuilt_1 : decode cX5_firstBuilt 1 = .ok (.getfield 23, 3) := by decide +kernel
theorem dX5_firstBuilt_4 : decode cX5_firstBuilt 4 = .ok (.aload_n 1, 1) := by decide +kernel
theorem dX5_firstBuilt_5 : decode cX5_firstBuilt 5 = .ok (.invokevirtual 27, 3) := by decide +kernel
theorem dX5_firstBuilt_8 : decode cX5_firstBuilt 8 = .ok (.iconst 0, 1) := by decide +kernel
theorem dX5_firstBuilt_9 : decode cX5_firstBuilt 9 = .ok (.istore_n 3, 1) := by decide +kernel
theorem dX5_firstBuilt_10 : decode cX5_firstBuilt 10 = .ok (.iload_n 3, 1) := by decide +kernel
theorem dX5_firstBuilt_11 : decode cX5_firstBuilt 11 = .ok (.bipush 60, 2) := by decide +kernel
theorem dX5_firstBuilt_13 : decode cX5_firstBuilt 13 = .ok (.if_icmp .gt 44, 3) := by decide +kernel
theorem dX5_firstBuilt_16 : decode cX5_firstBuilt 16 = .ok (.aload_n 1, 1) := by decide +kernel
theorem dX5_firstBuilt_17 : decode cX5_firstBuilt 17 = .ok (.getfield 48, 3) := by decide +kernel
theorem dX5_firstBuilt_20 : decode cX5_firstBuilt 20 = .ok (.iload_n 3, 1) := by decide +kernel
theorem dX5_firstBuilt_21 : decode cX5_firstBuilt 21 = .ok (.iadd, 1) := by decide +kernel
theorem dX5_firstBuilt_22 : decode cX5_firstBuilt 22 = .ok (.sipush 999, 3) := by decide +kernel
theorem dX5_firstBuilt_25 : decode cX5_firstBuilt 25 = .ok (.if_icmp .gt 32, 3) := by decide +kernel
theorem dX5_firstBuilt_28 : decode cX5_firstBuilt 28 = .ok (.aload_n 0, 1) := by decide +kernel
theorem dX5_firstBuilt_29 : decode cX5_firstBuilt 29 = .ok (.getfield 23, 3) := by decide +kernel
theorem dX5_firstBuilt_32 : decode cX5_firstBuilt 32 = .ok (.getfield 51, 3) := by decide +kernel
theorem dX5_firstBuilt_35 : decode cX5_firstBuilt 35 = .ok (.iload_n 2, 1) := by decide +kernel
theorem dX5_firstBuilt_36 : decode cX5_firstBuilt 36 = .ok (.iaload, 1) := by decide +kernel
theorem dX5_firstBuilt_37 : decode cX5_firstBuilt 37 = .ok (.iconst (-1), 1) := by decide +kernel
theorem dX5_firstBuilt_38 : decode cX5_firstBuilt 38 = .ok (.if_icmp .eq 5, 3) := by decide +kernel
theorem dX5_firstBuilt_41 : decode cX5_firstBuilt 41 = .ok (.iload_n 3, 1) := by decide +kernel
theorem dX5_firstBuilt_42 : decode cX5_firstBuilt 42 = .ok (.ireturn, 1) := by decide +kernel
theorem dX5_firstBuilt_43 : decode cX5_firstBuilt 43 = .ok (.aload_n 0, 1) := by decide +kernel
theorem dX5_firstBuilt_44 : decode cX5_firstBuilt 44 = .ok (.getfield 23, 3) := by decide +kernel
theorem dX5_firstBuilt_47 : decode cX5_firstBuilt 47 = .ok (.iconst 0, 1) := by decide +kernel
theorem dX5_firstBuilt_48 : decode cX5_firstBuilt 48 = .ok (.invokevirtual 35, 3) := by decide +kernel
theorem dX5_firstBuilt_51 : decode cX5_firstBuilt 51 = .ok (.iinc 3 1, 3) := by decide +kernel
theorem dX5_firstBuilt_54 : decode cX5_firstBuilt 54 = .ok (.goto (-44), 3) := by decide +kernel
theorem dX5_firstBuilt_57 : decode cX5_firstBuilt 57 = .ok (.iconst (-1), 1) := by decide +kernel
theorem dX5_firstBuilt_58 : decode cX5_firstBuilt 58 = .ok (.ireturn, 1) := by decide +kernel
theorem dX5_comingDown_0 : decode cX5_comingDown 0 = .ok (.aload_n 0, 1) := by decide +kernel
theorem dX5_comingDown_1 : decode cX5_comingDown 1 = .ok (.getfield 23, 3) := by decide +kernel
theorem dX5_comingDown_4 : decode cX5_comingDown 4 = .ok (.aload_n 1, 1) := by decide +kernel
theorem dX5_comingDown_5 : decode cX5_comingDown 5 = .ok (.invokevirtual 27, 3) := by decide +kernel
theorem dX5_comingDown_8 : decode cX5_comingDown 8 = .ok (.aload_n 0, 1) := by decide +kernel
theorem dX5_comingDown_9 : decode cX5_comingDown 9 = .ok (.getfield 23, 3) := by decide +kernel
theorem dX5_comingDown_12 : decode cX5_comingDown 12 = .ok (.iload_n 2, 1) := by decide +kernel
theorem dX5_comingDown_13 : decode cX5_comingDown 13 = .ok (.invokevirtual 54, 3) := by decide +kernel
theorem dX5_comingDown_16 : decode cX5_comingDown 16 = .ok (.aload_n 1, 1) := by decide +kernel
theorem dX5_comingDown_17 : decode cX5_comingDown 17 = .ok (.iconst 3, 1) := by decide +kernel
theorem dX5_comingDown_18 : decode cX5_comingDown 18 = .ok (.invokevirtual 39, 3) := by decide +kernel
theorem dX5_comingDown_21 : decode cX5_comingDown 21 = .ok (.aload_n 0, 1) := by decide +kernel
theorem dX5_comingDown_22 : decode cX5_comingDown 22 = .ok (.getfield 23, 3) := by decide +kernel
theorem dX5_comingDown_25 : decode cX5_comingDown 25 = .ok (.iconst 3, 1) := by decide +kernel
theorem dX5_comingDown_26 : decode cX5_comingDown 26 = .ok (.invokevirtual 39, 3) := by decide +kernel
theorem dX5_comingDown_29 : decode cX5_comingDown 29 = .ok (.iconst (-1), 1) := by decide +kernel
theorem dX5_comingDown_30 : decode cX5_comingDown 30 = .ok (.ixor, 1) := by decide +kernel
theorem dX5_comingDown_31 : decode cX5_comingDown 31 = .ok (.iand, 1) := by decide +kernel
theorem dX5_comingDown_32 : decode cX5_comingDown 32 = .ok (.ireturn, 1) := by decide +kernel
theorem dX5_fewestProps_0 : decode cX5_fewestProps 0 = .ok (.iconst 0, 1) := by decide +kernel
theorem dX5_fewestProps_1 : decode cX5_fewestProps 1 = .ok (.istore_n 3, 1) := by decide +kernel
theorem dX5_fewestProps_2 : decode cX5_fewestProps 2 = .ok (.iconst 0, 1) := by decide +kernel
theorem dX5_fewestProps_3 : decode cX5_fewestProps 3 = .ok (.istore 4, 2) := by decide +kernel
theorem dX5_fewestProps_5 : decode cX5_fewestProps 5 = .ok (.iload 4, 2) := by decide +kernel
theorem dX5_fewestProps_7 : decode cX5_fewestProps 7 = .ok (.aload_n 1, 1) := by decide +kernel
theorem dX5_fewestProps_8 : decode cX5_fewestProps 8 = .ok (.getfield 58, 3) := by decide +kernel
theorem dX5_fewestProps_11 : decode cX5_fewestProps 11 = .ok (.invokevirtual 62, 3) := by decide +kernel
theorem dX5_fewestProps_14 : decode cX5_fewestProps 14 = .ok (.if_icmp .ge 57, 3) := by decide +kernel
theorem dX5_fewestProps_17 : decode cX5_fewestProps 17 = .ok (.aload_n 1, 1) := by decide +kernel
theorem dX5_fewestProps_18 : decode cX5_fewestProps 18 = .ok (.getfield 51, 3) := by decide +kernel
theorem dX5_fewestProps_21 : decode cX5_fewestProps 21 = .ok (.iload 4, 2) := by decide +kernel
theorem dX5_fewestProps_23 : decode cX5_fewestProps 23 = .ok (.iaload, 1) := by decide +kernel
theorem dX5_fewestProps_24 : decode cX5_fewestProps 24 = .ok (.iconst (-1), 1) := by decide +kernel
theorem dX5_fewestProps_25 : decode cX5_fewestProps 25 = .ok (.if_icmp .eq 21, 3) := by decide +kernel
theorem dX5_fewestProps_28 : decode cX5_fewestProps 28 = .ok (.aload_n 1, 1) := by decide +kernel
theorem dX5_fewestProps_29 : decode cX5_fewestProps 29 = .ok (.getfield 51, 3) := by decide +kernel
theorem dX5_fewestProps_32 : decode cX5_fewestProps 32 = .ok (.iload 4, 2) := by decide +kernel
theorem dX5_fewestProps_34 : decode cX5_fewestProps 34 = .ok (.iaload, 1) := by decide +kernel
theorem dX5_fewestProps_35 : decode cX5_fewestProps 35 = .ok (.invokestatic 68, 3) := by decide +kernel
theorem dX5_fewestProps_38 : decode cX5_fewestProps 38 = .ok (.iload_n 2, 1) := by decide +kernel
theorem dX5_fewestProps_39 : decode cX5_fewestProps 39 = .ok (.if_icmp .ne 7, 3) := by decide +kernel
theorem dX5_fewestProps_42 : decode cX5_fewestProps 42 = .ok (.iconst 1, 1) := by decide +kernel
theorem dX5_fewestProps_43 : decode cX5_fewestProps 43 = .ok (.goto 4, 3) := by decide +kernel
theorem dX5_fewestProps_46 : decode cX5_fewestProps 46 = .ok (.iconst 0, 1) := by decide +kernel
theorem dX5_fewestProps_47 : decode cX5_fewestProps 47 = .ok (.istore 5, 2) := by decide +kernel
theorem dX5_fewestProps_49 : decode cX5_fewestProps 49 = .ok (.iload_n 3, 1) := by decide +kernel
theorem dX5_fewestProps_50 : decode cX5_fewestProps 50 = .ok (.iload 5, 2) := by decide +kernel
theorem dX5_fewestProps_52 : decode cX5_fewestProps 52 = .ok (.ifCond .eq 10, 3) := by decide +kernel
theorem dX5_fewestProps_55 : decode cX5_fewestProps 55 = .ok (.iconst 1, 1) := by decide +kernel
theorem dX5_fewestProps_56 : decode cX5_fewestProps 56 = .ok (.iload 4, 2) := by decide +kernel
theorem dX5_fewestProps_58 : decode cX5_fewestProps 58 = .ok (.ishl, 1) := by decide +kernel
theorem dX5_fewestProps_59 : decode cX5_fewestProps 59 = .ok (.goto 4, 3) := by decide +kernel
theorem dX5_fewestProps_62 : decode cX5_fewestProps 62 = .ok (.iconst 0, 1) := by decide +kernel
theorem dX5_fewestProps_63 : decode cX5_fewestProps 63 = .ok (.ior, 1) := by decide +kernel
theorem dX5_fewestProps_64 : decode cX5_fewestProps 64 = .ok (.istore_n 3, 1) := by decide +kernel
theorem dX5_fewestProps_65 : decode cX5_fewestProps 65 = .ok (.iinc 4 1, 3) := by decide +kernel
theorem dX5_fewestProps_68 : decode cX5_fewestProps 68 = .ok (.goto (-63), 3) := by decide +kernel
theorem dX5_fewestProps_71 : decode cX5_fewestProps 71 = .ok (.iload_n 3, 1) := by decide +kernel
theorem dX5_fewestProps_72 : decode cX5_fewestProps 72 = .ok (.istore 4, 2) := by decide +kernel
theorem dX5_fewestProps_74 : decode cX5_fewestProps 74 = .ok (.iconst 0, 1) := by decide +kernel
theorem dX5_fewestProps_75 : decode cX5_fewestProps 75 = .ok (.istore 5, 2) := by decide +kernel
theorem dX5_fewestProps_77 : decode cX5_fewestProps 77 = .ok (.iload 5, 2) := by decide +kernel
theorem dX5_fewestProps_79 : decode cX5_fewestProps 79 = .ok (.sipush 256, 3) := by decide +kernel
theorem dX5_fewestProps_82 : decode cX5_fewestProps 82 = .ok (.if_icmp .ge 57, 3) := by decide +kernel
theorem dX5_fewestProps_85 : decode cX5_fewestProps 85 = .ok (.iload 5, 2) := by decide +kernel
theorem dX5_fewestProps_87 : decode cX5_fewestProps 87 = .ok (.invokestatic 43, 3) := by decide +kernel
theorem dX5_fewestProps_90 : decode cX5_fewestProps 90 = .ok (.iload 4, 2) := by decide +kernel
theorem dX5_fewestProps_92 : decode cX5_fewestProps 92 = .ok (.invokestatic 43, 3) := by decide +kernel
theorem dX5_fewestProps_95 : decode cX5_fewestProps 95 = .ok (.if_icmp .ge 7, 3) := by decide +kernel
theorem dX5_fewestProps_98 : decode cX5_fewestProps 98 = .ok (.iconst 1, 1) := by decide +kernel
theorem dX5_fewestProps_99 : decode cX5_fewestProps 99 = .ok (.goto 4, 3) := by decide +kernel
theorem dX5_fewestProps_102 : decode cX5_fewestProps 102 = .ok (.iconst 0, 1) := by decide +kernel
theorem dX5_fewestProps_103 : decode cX5_fewestProps 103 = .ok (.istore 6, 2) := by decide +kernel
theorem dX5_fewestProps_105 : decode cX5_fewestProps 105 = .ok (.iload 5, 2) := by decide +kernel
theorem dX5_fewestProps_107 : decode cX5_fewestProps 107 = .ok (.iload_n 3, 1) := by decide +kernel
theorem dX5_fewestProps_108 : decode cX5_fewestProps 108 = .ok (.iconst (-1), 1) := by decide +kernel
theorem dX5_fewestProps_109 : decode cX5_fewestProps 109 = .ok (.ixor, 1) := by decide +kernel
theorem dX5_fewestProps_110 : decode cX5_fewestProps 110 = .ok (.iand, 1) := by decide +kernel
theorem dX5_fewestProps_111 : decode cX5_fewestProps 111 = .ok (.ifCond .ne 22, 3) := by decide +kernel
theorem dX5_fewestProps_114 : decode cX5_fewestProps 114 = .ok (.iload 6, 2) := by decide +kernel
theorem dX5_fewestProps_116 : decode cX5_fewestProps 116 = .ok (.ifCond .eq 17, 3) := by decide +kernel
theorem dX5_fewestProps_119 : decode cX5_fewestProps 119 = .ok (.aload_n 1, 1) := by decide +kernel
theorem dX5_fewestProps_120 : decode cX5_fewestProps 120 = .ok (.iload_n 2, 1) := by decide +kernel
theorem dX5_fewestProps_121 : decode cX5_fewestProps 121 = .ok (.iload 5, 2) := by decide +kernel
theorem dX5_fewestProps_123 : decode cX5_fewestProps 123 = .ok (.invokestatic 71, 3) := by decide +kernel
theorem dX5_fewestProps_126 : decode cX5_fewestProps 126 = .ok (.ifCond .eq 7, 3) := by decide +kernel
theorem dX5_fewestProps_129 : decode cX5_fewestProps 129 = .ok (.iload 5, 2) := by decide +kernel
theorem dX5_fewestProps_131 : decode cX5_fewestProps 131 = .ok (.istore 4, 2) := by decide +kernel
theorem dX5_fewestProps_133 : decode cX5_fewestProps 133 = .ok (.iinc 5 1, 3) := by decide +kernel
theorem dX5_fewestProps_136 : decode cX5_fewestProps 136 = .ok (.goto (-59), 3) := by decide +kernel
theorem dX5_fewestProps_139 : decode cX5_fewestProps 139 = .ok (.iload 4, 2) := by decide +kernel
theorem dX5_fewestProps_141 : decode cX5_fewestProps 141 = .ok (.ireturn, 1) := by decide +kernel
theorem dX5_holdsPropped_0 : decode cX5_holdsPropped 0 = .ok (.iconst 0, 1) := by decide +kernel
theorem dX5_holdsPropped_1 : decode cX5_holdsPropped 1 = .ok (.istore_n 3, 1) := by decide +kernel
theorem dX5_holdsPropped_2 : decode cX5_holdsPropped 2 = .ok (.iload_n 3, 1) := by decide +kernel
theorem dX5_holdsPropped_3 : decode cX5_holdsPropped 3 = .ok (.aload_n 0, 1) := by decide +kernel
theorem dX5_holdsPropped_4 : decode cX5_holdsPropped 4 = .ok (.getfield 58, 3) := by decide +kernel
theorem dX5_holdsPropped_7 : decode cX5_holdsPropped 7 = .ok (.getfield 75, 3) := by decide +kernel
theorem dX5_holdsPropped_10 : decode cX5_holdsPropped 10 = .ok (.iload_n 1, 1) := by decide +kernel
theorem dX5_holdsPropped_11 : decode cX5_holdsPropped 11 = .ok (.iaload, 1) := by decide +kernel
theorem dX5_holdsPropped_12 : decode cX5_holdsPropped 12 = .ok (.if_icmp .ge 103, 3) := by decide +kernel
theorem dX5_holdsPropped_15 : decode cX5_holdsPropped 15 = .ok (.iconst 0, 1) := by decide +kernel
theorem dX5_holdsPropped_16 : decode cX5_holdsPropped 16 = .ok (.istore 4, 2) := by decide +kernel
theorem dX5_holdsPropped_18 : decode cX5_holdsPropped 18 = .ok (.aload_n 0, 1) := by decide +kernel
theorem dX5_holdsPropped_19 : decode cX5_holdsPropped 19 = .ok (.getfield 78, 3) := by decide +kernel
theorem dX5_holdsPropped_22 : decode cX5_holdsPropped 22 = .ok (.iload_n 1, 1) := by decide +kernel
theorem dX5_holdsPropped_23 : decode cX5_holdsPropped 23 = .ok (.iconst 4, 1) := by decide +kernel
theorem dX5_holdsPropped_24 : decode cX5_holdsPropped 24 = .ok (.imul, 1) := by decide +kernel
theorem dX5_holdsPropped_25 : decode cX5_holdsPropped 25 = .ok (.iload_n 3, 1) := by decide +kernel
theorem dX5_holdsPropped_26 : decode cX5_holdsPropped 26 = .ok (.iadd, 1) := by decide +kernel
theorem dX5_holdsPropped_27 : decode cX5_holdsPropped 27 = .ok (.iaload, 1) := by decide +kernel
theorem dX5_holdsPropped_28 : decode cX5_holdsPropped 28 = .ok (.iconst 1, 1) := by decide +kernel
theorem dX5_holdsPropped_29 : decode cX5_holdsPropped 29 = .ok (.isub, 1) := by decide +kernel
theorem dX5_holdsPropped_30 : decode cX5_holdsPropped 30 = .ok (.istore 5, 2) := by decide +kernel
theorem dX5_holdsPropped_32 : decode cX5_holdsPropped 32 = .ok (.iload 5, 2) := by decide +kernel
theorem dX5_holdsPropped_34 : decode cX5_holdsPropped 34 = .ok (.ifCond .lt 75, 3) := by decide +kernel
theorem dX5_holdsPropped_37 : decode cX5_holdsPropped 37 = .ok (.aload_n 0, 1) := by decide +kernel
theorem dX5_holdsPropped_38 : decode cX5_holdsPropped 38 = .ok (.getfield 81, 3) := by decide +kernel
theorem dX5_holdsPropped_41 : decode cX5_holdsPropped 41 = .ok (.iload_n 1, 1) := by decide +kernel
theorem dX5_holdsPropped_42 : decode cX5_holdsPropped 42 = .ok (.iload_n 3, 1) := by decide +kernel
theorem dX5_holdsPropped_43 : decode cX5_holdsPropped 43 = .ok (.iload 5, 2) := by decide +kernel
theorem dX5_holdsPropped_45 : decode cX5_holdsPropped 45 = .ok (.invokestatic 84, 3) := by decide +kernel
theorem dX5_holdsPropped_48 : decode cX5_holdsPropped 48 = .ok (.iaload, 1) := by decide +kernel
theorem dX5_holdsPropped_49 : decode cX5_holdsPropped 49 = .ok (.istore 6, 2) := by decide +kernel
theorem dX5_holdsPropped_51 : decode cX5_holdsPropped 51 = .ok (.iload 6, 2) := by decide +kernel
theorem dX5_holdsPropped_53 : decode cX5_holdsPropped 53 = .ok (.iconst (-1), 1) := by decide +kernel
theorem dX5_holdsPropped_54 : decode cX5_holdsPropped 54 = .ok (.if_icmp .eq 12, 3) := by decide +kernel
theorem dX5_holdsPropped_57 : decode cX5_holdsPropped 57 = .ok (.iload_n 2, 1) := by decide +kernel
theorem dX5_holdsPropped_58 : decode cX5_holdsPropped 58 = .ok (.iconst 1, 1) := by decide +kernel
theorem dX5_holdsPropped_59 : decode cX5_holdsPropped 59 = .ok (.iload 6, 2) := by decide +kernel
theorem dX5_holdsPropped_61 : decode cX5_holdsPropped 61 = .ok (.ishl, 1) := by decide +kernel
theorem dX5_holdsPropped_62 : decode cX5_holdsPropped 62 = .ok (.iand, 1) := by decide +kernel
theorem dX5_holdsPropped_63 : decode cX5_holdsPropped 63 = .ok (.ifCond .eq 9, 3) := by decide +kernel
theorem dX5_holdsPropped_66 : decode cX5_holdsPropped 66 = .ok (.iconst 0, 1) := by decide +kernel
theorem dX5_holdsPropped_67 : decode cX5_holdsPropped 67 = .ok (.istore 4, 2) := by decide +kernel
theorem dX5_holdsPropped_69 : decode cX5_holdsPropped 69 = .ok (.goto 34, 3) := by decide +kernel
theorem dX5_holdsPropped_72 : decode cX5_holdsPropped 72 = .ok (.aload_n 0, 1) := by decide +kernel
theorem dX5_holdsPropped_73 : decode cX5_holdsPropped 73 = .ok (.iload 6, 2) := by decide +kernel
theorem dX5_holdsPropped_75 : decode cX5_holdsPropped 75 = .ok (.aload_n 0, 1) := by decide +kernel
theorem dX5_holdsPropped_76 : decode cX5_holdsPropped 76 = .ok (.getfield 58, 3) := by decide +kernel
theorem dX5_holdsPropped_79 : decode cX5_holdsPropped 79 = .ok (.getfield 88, 3) := by decide +kernel
theorem dX5_holdsPropped_82 : decode cX5_holdsPropped 82 = .ok (.invokevirtual 91, 3) := by decide +kernel
theorem dX5_holdsPropped_85 : decode cX5_holdsPropped 85 = .ok (.iload 4, 2) := by decide +kernel
theorem dX5_holdsPropped_87 : decode cX5_holdsPropped 87 = .ok (.aload_n 0, 1) := by decide +kernel
theorem dX5_holdsPropped_88 : decode cX5_holdsPropped 88 = .ok (.getfield 58, 3) := by decide +kernel
theorem dX5_holdsPropped_91 : decode cX5_holdsPropped 91 = .ok (.getfield 95, 3) := by decide +kernel
theorem dX5_holdsPropped_94 : decode cX5_holdsPropped 94 = .ok (.imul, 1) := by decide +kernel
theorem dX5_holdsPropped_95 : decode cX5_holdsPropped 95 = .ok (.if_icmp .ge 5, 3) := by decide +kernel
theorem dX5_holdsPropped_98 : decode cX5_holdsPropped 98 = .ok (.iconst 0, 1) := by decide +kernel
theorem dX5_holdsPropped_99 : decode cX5_holdsPropped 99 = .ok (.ireturn, 1) := by decide +kernel
theorem dX5_holdsPropped_100 : decode cX5_holdsPropped 100 = .ok (.iinc 4 1, 3) := by decide +kernel
theorem dX5_holdsPropped_103 : decode cX5_holdsPropped 103 = .ok (.iinc 5 (-1), 3) := by decide +kernel
theorem dX5_holdsPropped_106 : decode cX5_holdsPropped 106 = .ok (.goto (-74), 3) := by decide +kernel
theorem dX5_holdsPropped_109 : decode cX5_holdsPropped 109 = .ok (.iinc 3 1, 3) := by decide +kernel
theorem dX5_holdsPropped_112 : decode cX5_holdsPropped 112 = .ok (.goto (-110), 3) := by decide +kernel
theorem dX5_holdsPropped_115 : decode cX5_holdsPropped 115 = .ok (.iconst 1, 1) := by decide +kernel
theorem dX5_holdsPropped_116 : decode cX5_holdsPropped 116 = .ok (.ireturn, 1) := by decide +kernel
theorem dX5_strongestHome_0 : decode cX5_strongestHome 0 = .ok (.iconst 0, 1) := by decide +kernel
theorem dX5_strongestHome_1 : decode cX5_strongestHome 1 = .ok (.istore_n 3, 1) := by decide +kernel
theorem dX5_strongestHome_2 : decode cX5_strongestHome 2 = .ok (.iconst (-1), 1) := by decide +kernel
theorem dX5_strongestHome_3 : decode cX5_strongestHome 3 = .ok (.istore 4, 2) := by decide +kernel
theorem dX5_strongestHome_5 : decode cX5_strongestHome 5 = .ok (.iconst 0, 1) := by decide +kernel
theorem dX5_strongestHome_6 : decode cX5_strongestHome 6 = .ok (.istore 5, 2) := by decide +kernel
theorem dX5_strongestHome_8 : decode cX5_strongestHome 8 = .ok (.iload 5, 2) := by decide +kernel
theorem dX5_strongestHome_10 : decode cX5_strongestHome 10 = .ok (.aload_n 1, 1) := by decide +kernel
theorem dX5_strongestHome_11 : decode cX5_strongestHome 11 = .ok (.getfield 58, 3) := by decide +kernel
theorem dX5_strongestHome_14 : decode cX5_strongestHome 14 = .ok (.invokevirtual 98, 3) := by decide +kernel
theorem dX5_strongestHome_17 : decode cX5_strongestHome 17 = .ok (.if_icmp .ge 32, 3) := by decide +kernel
theorem dX5_strongestHome_20 : decode cX5_strongestHome 20 = .ok (.aload_n 1, 1) := by decide +kernel
theorem dX5_strongestHome_21 : decode cX5_strongestHome 21 = .ok (.iload_n 2, 1) := by decide +kernel
theorem dX5_strongestHome_22 : decode cX5_strongestHome 22 = .ok (.iload 5, 2) := by decide +kernel
theorem dX5_strongestHome_24 : decode cX5_strongestHome 24 = .ok (.invokevirtual 101, 3) := by decide +kernel
theorem dX5_strongestHome_27 : decode cX5_strongestHome 27 = .ok (.istore 6, 2) := by decide +kernel
theorem dX5_strongestHome_29 : decode cX5_strongestHome 29 = .ok (.iload 6, 2) := by decide +kernel
theorem dX5_strongestHome_31 : decode cX5_strongestHome 31 = .ok (.iload 4, 2) := by decide +kernel
theorem dX5_strongestHome_33 : decode cX5_strongestHome 33 = .ok (.if_icmp .le 10, 3) := by decide +kernel
theorem dX5_strongestHome_36 : decode cX5_strongestHome 36 = .ok (.iload 6, 2) := by decide +kernel
theorem dX5_strongestHome_38 : decode cX5_strongestHome 38 = .ok (.istore 4, 2) := by decide +kernel
theorem dX5_strongestHome_40 : decode cX5_strongestHome 40 = .ok (.iload 5, 2) := by decide +kernel
theorem dX5_strongestHome_42 : decode cX5_strongestHome 42 = .ok (.istore_n 3, 1) := by decide +kernel
theorem dX5_strongestHome_43 : decode cX5_strongestHome 43 = .ok (.iinc 5 1, 3) := by decide +kernel
theorem dX5_strongestHome_46 : decode cX5_strongestHome 46 = .ok (.goto (-38), 3) := by decide +kernel
theorem dX5_strongestHome_49 : decode cX5_strongestHome 49 = .ok (.iload_n 3, 1) := by decide +kernel
theorem dX5_strongestHome_50 : decode cX5_strongestHome 50 = .ok (.ireturn, 1) := by decide +kernel
theorem dX5_findOrder_0 : decode cX5_findOrder 0 = .ok (.aload_n 0, 1) := by decide +kernel
theorem dX5_findOrder_1 : decode cX5_findOrder 1 = .ok (.getfield 23, 3) := by decide +kernel
theorem dX5_findOrder_4 : decode cX5_findOrder 4 = .ok (.aload_n 1, 1) := by decide +kernel
theorem dX5_findOrder_5 : decode cX5_findOrder 5 = .ok (.invokevirtual 27, 3) := by decide +kernel
theorem dX5_findOrder_8 : decode cX5_findOrder 8 = .ok (.aload_n 0, 1) := by decide +kernel
theorem dX5_findOrder_9 : decode cX5_findOrder 9 = .ok (.iload_n 2, 1) := by decide +kernel
theorem dX5_findOrder_10 : decode cX5_findOrder 10 = .ok (.invokestatic 43, 3) := by decide +kernel
theorem dX5_findOrder_13 : decode cX5_findOrder 13 = .ok (.putfield 104, 3) := by decide +kernel
theorem dX5_findOrder_16 : decode cX5_findOrder 16 = .ok (.aload_n 0, 1) := by decide +kernel
theorem dX5_findOrder_17 : decode cX5_findOrder 17 = .ok (.iconst (-1), 1) := by decide +kernel
theorem dX5_findOrder_18 : decode cX5_findOrder 18 = .ok (.putfield 107, 3) := by decide +kernel
theorem dX5_findOrder_21 : decode cX5_findOrder 21 = .ok (.aload_n 0, 1) := by decide +kernel
theorem dX5_findOrder_22 : decode cX5_findOrder 22 = .ok (.iconst 0, 1) := by decide +kernel
theorem dX5_findOrder_23 : decode cX5_findOrder 23 = .ok (.iload_n 2, 1) := by decide +kernel
theorem dX5_findOrder_24 : decode cX5_findOrder 24 = .ok (.iconst 0, 1) := by decide +kernel
theorem dX5_findOrder_25 : decode cX5_findOrder 25 = .ok (.invokevirtual 110, 3) := by decide +kernel
theorem dX5_findOrder_28 : decode cX5_findOrder 28 = .ok (.aload_n 0, 1) := by decide +kernel
theorem dX5_findOrder_29 : decode cX5_findOrder 29 = .ok (.iconst 0, 1) := by decide +kernel
theorem dX5_findOrder_30 : decode cX5_findOrder 30 = .ok (.aload_n 0, 1) := by decide +kernel
theorem dX5_findOrder_31 : decode cX5_findOrder 31 = .ok (.getfield 107, 3) := by decide +kernel
theorem dX5_findOrder_34 : decode cX5_findOrder 34 = .ok (.invokestatic 114, 3) := by decide +kernel
theorem dX5_findOrder_37 : decode cX5_findOrder 37 = .ok (.putfield 107, 3) := by decide +kernel
theorem dX5_findOrder_40 : decode cX5_findOrder 40 = .ok (.return_, 1) := by decide +kernel
theorem dX5_orderFrom_0 : decode cX5_orderFrom 0 = .ok (.iload_n 1, 1) := by decide +kernel
theorem dX5_orderFrom_1 : decode cX5_orderFrom 1 = .ok (.aload_n 0, 1) := by decide +kernel
theorem dX5_orderFrom_2 : decode cX5_orderFrom 2 = .ok (.getfield 104, 3) := by decide +kernel
theorem dX5_orderFrom_5 : decode cX5_orderFrom 5 = .ok (.if_icmp .ge 9, 3) := by decide +kernel
theorem dX5_orderFrom_8 : decode cX5_orderFrom 8 = .ok (.iload_n 1, 1) := by decide +kernel
theorem dX5_orderFrom_9 : decode cX5_orderFrom 9 = .ok (.bipush 6, 2) := by decide +kernel
theorem dX5_orderFrom_11 : decode cX5_orderFrom 11 = .ok (.if_icmp .lt 32, 3) := by decide +kernel
theorem dX5_orderFrom_14 : decode cX5_orderFrom 14 = .ok (.iload_n 3, 1) := by decide +kernel
theorem dX5_orderFrom_15 : decode cX5_orderFrom 15 = .ok (.aload_n 0, 1) := by decide +kernel
theorem dX5_orderFrom_16 : decode cX5_orderFrom 16 = .ok (.getfield 107, 3) := by decide +kernel
theorem dX5_orderFrom_19 : decode cX5_orderFrom 19 = .ok (.if_icmp .le 23, 3) := by decide +kernel
theorem dX5_orderFrom_22 : decode cX5_orderFrom 22 = .ok (.aload_n 0, 1) := by decide +kernel
theorem dX5_orderFrom_23 : decode cX5_orderFrom 23 = .ok (.iload_n 3, 1) := by decide +kernel
theorem dX5_orderFrom_24 : decode cX5_orderFrom 24 = .ok (.putfield 107, 3) := by decide +kernel
theorem dX5_orderFrom_27 : decode cX5_orderFrom 27 = .ok (.aload_n 0, 1) := by decide +kernel
theorem dX5_orderFrom_28 : decode cX5_orderFrom 28 = .ok (.getfield 15, 3) := by decide +kernel
theorem dX5_orderFrom_31 : decode cX5_orderFrom 31 = .ok (.iconst 0, 1) := by decide +kernel
theorem dX5_orderFrom_32 : decode cX5_orderFrom 32 = .ok (.aload_n 0, 1) := by decide +kernel
theorem dX5_orderFrom_33 : decode cX5_orderFrom 33 = .ok (.getfield 9, 3) := by decide +kernel
theorem dX5_orderFrom_36 : decode cX5_orderFrom 36 = .ok (.iconst 0, 1) := by decide +kernel
theorem dX5_orderFrom_37 : decode cX5_orderFrom 37 = .ok (.bipush 6, 2) := by decide +kernel
theorem dX5_orderFrom_39 : decode cX5_orderFrom 39 = .ok (.invokestatic 119, 3) := by decide +kernel
theorem dX5_orderFrom_42 : decode cX5_orderFrom 42 = .ok (.return_, 1) := by decide +kernel
theorem dX5_orderFrom_43 : decode cX5_orderFrom 43 = .ok (.iconst 0, 1) := by decide +kernel
theorem dX5_orderFrom_44 : decode cX5_orderFrom 44 = .ok (.istore 4, 2) := by decide +kernel
theorem dX5_orderFrom_46 : decode cX5_orderFrom 46 = .ok (.iload 4, 2) := by decide +kernel
theorem dX5_orderFrom_48 : decode cX5_orderFrom 48 = .ok (.bipush 8, 2) := by decide +kernel
theorem dX5_orderFrom_50 : decode cX5_orderFrom 50 = .ok (.if_icmp .ge 100, 3) := by decide +kernel
theorem dX5_orderFrom_53 : decode cX5_orderFrom 53 = .ok (.iload_n 3, 1) := by decide +kernel
theorem dX5_orderFrom_54 : decode cX5_orderFrom 54 = .ok (.aload_n 0, 1) := by decide +kernel
theorem dX5_orderFrom_55 : decode cX5_orderFrom 55 = .ok (.getfield 104, 3) := by decide +kernel
theorem dX5_orderFrom_58 : decode cX5_orderFrom 58 = .ok (.iadd, 1) := by decide +kernel
theorem dX5_orderFrom_59 : decode cX5_orderFrom 59 = .ok (.iload_n 1, 1) := by decide +kernel
theorem dX5_orderFrom_60 : decode cX5_orderFrom 60 = .ok (.isub, 1) := by decide +kernel
theorem dX5_orderFrom_61 : decode cX5_orderFrom 61 = .ok (.aload_n 0, 1) := by decide +kernel
theorem dX5_orderFrom_62 : decode cX5_orderFrom 62 = .ok (.getfield 107, 3) := by decide +kernel
theorem dX5_orderFrom_65 : decode cX5_orderFrom 65 = .ok (.if_icmp .le 7, 3) := by decide +kernel
theorem dX5_orderFrom_68 : decode cX5_orderFrom 68 = .ok (.iconst 1, 1) := by decide +kernel
theorem dX5_orderFrom_69 : decode cX5_orderFrom 69 = .ok (.goto 4, 3) := by decide +kernel
theorem dX5_orderFrom_72 : decode cX5_orderFrom 72 = .ok (.iconst 0, 1) := by decide +kernel
theorem dX5_orderFrom_73 : decode cX5_orderFrom 73 = .ok (.istore 5, 2) := by decide +kernel
theorem dX5_orderFrom_75 : decode cX5_orderFrom 75 = .ok (.iload_n 2, 1) := by decide +kernel
theorem dX5_orderFrom_76 : decode cX5_orderFrom 76 = .ok (.iconst 1, 1) := by decide +kernel
theorem dX5_orderFrom_77 : decode cX5_orderFrom 77 = .ok (.iload 4, 2) := by decide +kernel
theorem dX5_orderFrom_79 : decode cX5_orderFrom 79 = .ok (.ishl, 1) := by decide +kernel
theorem dX5_orderFrom_80 : decode cX5_orderFrom 80 = .ok (.iand, 1) := by decide +kernel
theorem dX5_orderFrom_81 : decode cX5_orderFrom 81 = .ok (.ifCond .eq 63, 3) := by decide +kernel
theorem dX5_orderFrom_84 : decode cX5_orderFrom 84 = .ok (.iload 5, 2) := by decide +kernel
theorem dX5_orderFrom_86 : decode cX5_orderFrom 86 = .ok (.ifCond .eq 58, 3) := by decide +kernel
theorem dX5_orderFrom_89 : decode cX5_orderFrom 89 = .ok (.aload_n 0, 1) := by decide +kernel
theorem dX5_orderFrom_90 : decode cX5_orderFrom 90 = .ok (.getfield 15, 3) := by decide +kernel
theorem dX5_orderFrom_93 : decode cX5_orderFrom 93 = .ok (.iload_n 1, 1) := by decide +kernel
theorem dX5_orderFrom_94 : decode cX5_orderFrom 94 = .ok (.iload 4, 2) := by decide +kernel
theorem dX5_orderFrom_96 : decode cX5_orderFrom 96 = .ok (.iastore, 1) := by decide +kernel
theorem dX5_orderFrom_97 : decode cX5_orderFrom 97 = .ok (.aload_n 0, 1) := by decide +kernel
theorem dX5_orderFrom_98 : decode cX5_orderFrom 98 = .ok (.getfield 23, 3) := by decide +kernel
theorem dX5_orderFrom_101 : decode cX5_orderFrom 101 = .ok (.iload 4, 2) := by decide +kernel
theorem dX5_orderFrom_103 : decode cX5_orderFrom 103 = .ok (.invokevirtual 125, 3) := by decide +kernel
theorem dX5_orderFrom_106 : decode cX5_orderFrom 106 = .ok (.istore 6, 2) := by decide +kernel
theorem dX5_orderFrom_108 : decode cX5_orderFrom 108 = .ok (.aload_n 0, 1) := by decide +kernel
theorem dX5_orderFrom_109 : decode cX5_orderFrom 109 = .ok (.iload_n 1, 1) := by decide +kernel
theorem dX5_orderFrom_110 : decode cX5_orderFrom 110 = .ok (.iconst 1, 1) := by decide +kernel
theorem dX5_orderFrom_111 : decode cX5_orderFrom 111 = .ok (.iadd, 1) := by decide +kernel
theorem dX5_orderFrom_112 : decode cX5_orderFrom 112 = .ok (.iload_n 2, 1) := by decide +kernel
theorem dX5_orderFrom_113 : decode cX5_orderFrom 113 = .ok (.iconst 1, 1) := by decide +kernel
theorem dX5_orderFrom_114 : decode cX5_orderFrom 114 = .ok (.iload 4, 2) := by decide +kernel
theorem dX5_orderFrom_116 : decode cX5_orderFrom 116 = .ok (.ishl, 1) := by decide +kernel
theorem dX5_orderFrom_117 : decode cX5_orderFrom 117 = .ok (.iconst (-1), 1) := by decide +kernel
theorem dX5_orderFrom_118 : decode cX5_orderFrom 118 = .ok (.ixor, 1) := by decide +kernel
theorem dX5_orderFrom_119 : decode cX5_orderFrom 119 = .ok (.iand, 1) := by decide +kernel
theorem dX5_orderFrom_120 : decode cX5_orderFrom 120 = .ok (.iload_n 3, 1) := by decide +kernel
theorem dX5_orderFrom_121 : decode cX5_orderFrom 121 = .ok (.iload 6, 2) := by decide +kernel
theorem dX5_orderFrom_123 : decode cX5_orderFrom 123 = .ok (.ifCond .eq 7, 3) := by decide +kernel
theorem dX5_orderFrom_126 : decode cX5_orderFrom 126 = .ok (.iconst 1, 1) := by decide +kernel
theorem dX5_orderFrom_127 : decode cX5_orderFrom 127 = .ok (.goto 4, 3) := by decide +kernel
theorem dX5_orderFrom_130 : decode cX5_orderFrom 130 = .ok (.iconst 0, 1) := by decide +kernel
theorem dX5_orderFrom_131 : decode cX5_orderFrom 131 = .ok (.iadd, 1) := by decide +kernel
theorem dX5_orderFrom_132 : decode cX5_orderFrom 132 = .ok (.invokevirtual 110, 3) := by decide +kernel
theorem dX5_orderFrom_135 : decode cX5_orderFrom 135 = .ok (.aload_n 0, 1) := by decide +kernel
theorem dX5_orderFrom_136 : decode cX5_orderFrom 136 = .ok (.getfield 23, 3) := by decide +kernel
theorem dX5_orderFrom_139 : decode cX5_orderFrom 139 = .ok (.iload 4, 2) := by decide +kernel
theorem dX5_orderFrom_141 : decode cX5_orderFrom 141 = .ok (.invokevirtual 129, 3) := by decide +kernel
theorem dX5_orderFrom_144 : decode cX5_orderFrom 144 = .ok (.iinc 4 1, 3) := by decide +kernel
theorem dX5_orderFrom_147 : decode cX5_orderFrom 147 = .ok (.goto (-101), 3) := by decide +kernel
theorem dX5_orderFrom_150 : decode cX5_orderFrom 150 = .ok (.return_, 1) := by decide +kernel
theorem dX5_firstWins_0 : decode cX5_firstWins 0 = .ok (.aload_n 0, 1) := by decide +kernel
theorem dX5_firstWins_1 : decode cX5_firstWins 1 = .ok (.getfield 23, 3) := by decide +kernel
theorem dX5_firstWins_4 : decode cX5_firstWins 4 = .ok (.aload_n 1, 1) := by decide +kernel
theorem dX5_firstWins_5 : decode cX5_firstWins 5 = .ok (.invokevirtual 27, 3) := by decide +kernel
theorem dX5_firstWins_8 : decode cX5_firstWins 8 = .ok (.aload_n 0, 1) := by decide +kernel
theorem dX5_firstWins_9 : decode cX5_firstWins 9 = .ok (.iload_n 2, 1) := by decide +kernel
theorem dX5_firstWins_10 : decode cX5_firstWins 10 = .ok (.iconst 0, 1) := by decide +kernel
theorem dX5_firstWins_11 : decode cX5_firstWins 11 = .ok (.invokevirtual 132, 3) := by decide +kernel
theorem dX5_firstWins_14 : decode cX5_firstWins 14 = .ok (.ireturn, 1) := by decide +kernel
theorem dX5_winsFrom_0 : decode cX5_winsFrom 0 = .ok (.iconst 0, 1) := by decide +kernel
theorem dX5_winsFrom_1 : decode cX5_winsFrom 1 = .ok (.istore_n 3, 1) := by decide +kernel
theorem dX5_winsFrom_2 : decode cX5_winsFrom 2 = .ok (.iload_n 1, 1) := by decide +kernel
theorem dX5_winsFrom_3 : decode cX5_winsFrom 3 = .ok (.iconst 4, 1) := by decide +kernel
theorem dX5_winsFrom_4 : decode cX5_winsFrom 4 = .ok (.imul, 1) := by decide +kernel
theorem dX5_winsFrom_5 : decode cX5_winsFrom 5 = .ok (.istore 4, 2) := by decide +kernel
theorem dX5_winsFrom_7 : decode cX5_winsFrom 7 = .ok (.iload 4, 2) := by decide +kernel
theorem dX5_winsFrom_9 : decode cX5_winsFrom 9 = .ok (.istore 5, 2) := by decide +kernel
theorem dX5_winsFrom_11 : decode cX5_winsFrom 11 = .ok (.iload 5, 2) := by decide +kernel
theorem dX5_winsFrom_13 : decode cX5_winsFrom 13 = .ok (.iload 4, 2) := by decide +kernel
theorem dX5_winsFrom_15 : decode cX5_winsFrom 15 = .ok (.iconst 4, 1) := by decide +kernel
theorem dX5_winsFrom_16 : decode cX5_winsFrom 16 = .ok (.iadd, 1) := by decide +kernel
theorem dX5_winsFrom_17 : decode cX5_winsFrom 17 = .ok (.if_icmp .ge 122, 3) := by decide +kernel
theorem dX5_winsFrom_20 : decode cX5_winsFrom 20 = .ok (.iload_n 3, 1) := by decide +kernel
theorem dX5_winsFrom_21 : decode cX5_winsFrom 21 = .ok (.ifCond .ne 118, 3) := by decide +kernel
theorem dX5_winsFrom_24 : decode cX5_winsFrom 24 = .ok (.iload 5, 2) := by decide +kernel
theorem dX5_winsFrom_26 : decode cX5_winsFrom 26 = .ok (.iconst 4, 1) := by decide +kernel
theorem dX5_winsFrom_27 : decode cX5_winsFrom 27 = .ok (.imul, 1) := by decide +kernel
theorem dX5_winsFrom_28 : decode cX5_winsFrom 28 = .ok (.aload_n 0, 1) := by decide +kernel
theorem dX5_winsFrom_29 : decode cX5_winsFrom 29 = .ok (.getfield 23, 3) := by decide +kernel
theorem dX5_winsFrom_32 : decode cX5_winsFrom 32 = .ok (.getfield 78, 3) := by decide +kernel
theorem dX5_winsFrom_35 : decode cX5_winsFrom 35 = .ok (.iload 5, 2) := by decide +kernel
theorem dX5_winsFrom_37 : decode cX5_winsFrom 37 = .ok (.iaload, 1) := by decide +kernel
theorem dX5_winsFrom_38 : decode cX5_winsFrom 38 = .ok (.iadd, 1) := by decide +kernel
theorem dX5_winsFrom_39 : decode cX5_winsFrom 39 = .ok (.iconst 1, 1) := by decide +kernel
theorem dX5_winsFrom_40 : decode cX5_winsFrom 40 = .ok (.isub, 1) := by decide +kernel
theorem dX5_winsFrom_41 : decode cX5_winsFrom 41 = .ok (.istore 6, 2) := by decide +kernel
theorem dX5_winsFrom_43 : decode cX5_winsFrom 43 = .ok (.aload_n 0, 1) := by decide +kernel
theorem dX5_winsFrom_44 : decode cX5_winsFrom 44 = .ok (.getfield 23, 3) := by decide +kernel
theorem dX5_winsFrom_47 : decode cX5_winsFrom 47 = .ok (.getfield 78, 3) := by decide +kernel
theorem dX5_winsFrom_50 : decode cX5_winsFrom 50 = .ok (.iload 5, 2) := by decide +kernel
theorem dX5_winsFrom_52 : decode cX5_winsFrom 52 = .ok (.iaload, 1) := by decide +kernel
theorem dX5_winsFrom_53 : decode cX5_winsFrom 53 = .ok (.ifCond .le 16, 3) := by decide +kernel
theorem dX5_winsFrom_56 : decode cX5_winsFrom 56 = .ok (.aload_n 0, 1) := by decide +kernel
theorem dX5_winsFrom_57 : decode cX5_winsFrom 57 = .ok (.getfield 23, 3) := by decide +kernel
theorem dX5_winsFrom_60 : decode cX5_winsFrom 60 = .ok (.getfield 81, 3) := by decide +kernel
theorem dX5_winsFrom_63 : decode cX5_winsFrom 63 = .ok (.iload 6, 2) := by decide +kernel
theorem dX5_winsFrom_65 : decode cX5_winsFrom 65 = .ok (.iaload, 1) := by decide +kernel
theorem dX5_winsFrom_66 : decode cX5_winsFrom 66 = .ok (.goto 4, 3) := by decide +kernel
theorem dX5_winsFrom_69 : decode cX5_winsFrom 69 = .ok (.iconst (-1), 1) := by decide +kernel
theorem dX5_winsFrom_70 : decode cX5_winsFrom 70 = .ok (.istore 7, 2) := by decide +kernel
theorem dX5_winsFrom_72 : decode cX5_winsFrom 72 = .ok (.iload 7, 2) := by decide +kernel
theorem dX5_winsFrom_74 : decode cX5_winsFrom 74 = .ok (.iconst (-1), 1) := by decide +kernel
theorem dX5_winsFrom_75 : decode cX5_winsFrom 75 = .ok (.if_icmp .eq 58, 3) := by decide +kernel
theorem dX5_winsFrom_78 : decode cX5_winsFrom 78 = .ok (.iload_n 2, 1) := by decide +kernel
theorem dX5_winsFrom_79 : decode cX5_winsFrom 79 = .ok (.bipush 8, 2) := by decide +kernel
theorem dX5_winsFrom_81 : decode cX5_winsFrom 81 = .ok (.if_icmp .ge 52, 3) := by decide +kernel
theorem dX5_winsFrom_84 : decode cX5_winsFrom 84 = .ok (.aload_n 0, 1) := by decide +kernel
theorem dX5_winsFrom_85 : decode cX5_winsFrom 85 = .ok (.getfield 23, 3) := by decide +kernel
theorem dX5_winsFrom_88 : decode cX5_winsFrom 88 = .ok (.iload 7, 2) := by decide +kernel
theorem dX5_winsFrom_90 : decode cX5_winsFrom 90 = .ok (.invokevirtual 129, 3) := by decide +kernel
theorem dX5_winsFrom_93 : decode cX5_winsFrom 93 = .ok (.aload_n 0, 1) := by decide +kernel
theorem dX5_winsFrom_94 : decode cX5_winsFrom 94 = .ok (.getfield 23, 3) := by decide +kernel
theorem dX5_winsFrom_97 : decode cX5_winsFrom 97 = .ok (.iload_n 1, 1) := by decide +kernel
theorem dX5_winsFrom_98 : decode cX5_winsFrom 98 = .ok (.invokevirtual 136, 3) := by decide +kernel
theorem dX5_winsFrom_101 : decode cX5_winsFrom 101 = .ok (.iconst (-1), 1) := by decide +kernel
theorem dX5_winsFrom_102 : decode cX5_winsFrom 102 = .ok (.if_icmp .ne 18, 3) := by decide +kernel
theorem dX5_winsFrom_105 : decode cX5_winsFrom 105 = .ok (.aload_n 0, 1) := by decide +kernel
theorem dX5_winsFrom_106 : decode cX5_winsFrom 106 = .ok (.iload_n 1, 1) := by decide +kernel
theorem dX5_winsFrom_107 : decode cX5_winsFrom 107 = .ok (.iload_n 2, 1) := by decide +kernel
theorem dX5_winsFrom_108 : decode cX5_winsFrom 108 = .ok (.iconst 1, 1) := by decide +kernel
theorem dX5_winsFrom_109 : decode cX5_winsFrom 109 = .ok (.iadd, 1) := by decide +kernel
theorem dX5_winsFrom_110 : decode cX5_winsFrom 110 = .ok (.invokevirtual 132, 3) := by decide +kernel
theorem dX5_winsFrom_113 : decode cX5_winsFrom 113 = .ok (.ifCond .ne 7, 3) := by decide +kernel
theorem dX5_winsFrom_116 : decode cX5_winsFrom 116 = .ok (.iconst 1, 1) := by decide +kernel
theorem dX5_winsFrom_117 : decode cX5_winsFrom 117 = .ok (.goto 4, 3) := by decide +kernel
theorem dX5_winsFrom_120 : decode cX5_winsFrom 120 = .ok (.iconst 0, 1) := by decide +kernel
theorem dX5_winsFrom_121 : decode cX5_winsFrom 121 = .ok (.istore_n 3, 1) := by decide +kernel
theorem dX5_winsFrom_122 : decode cX5_winsFrom 122 = .ok (.aload_n 0, 1) := by decide +kernel
theorem dX5_winsFrom_123 : decode cX5_winsFrom 123 = .ok (.getfield 23, 3) := by decide +kernel
theorem dX5_winsFrom_126 : decode cX5_winsFrom 126 = .ok (.iload 7, 2) := by decide +kernel
theorem dX5_winsFrom_128 : decode cX5_winsFrom 128 = .ok (.iload 6, 2) := by decide +kernel
theorem dX5_winsFrom_130 : decode cX5_winsFrom 130 = .ok (.invokevirtual 139, 3) := by decide +kernel
theorem dX5_winsFrom_133 : decode cX5_winsFrom 133 = .ok (.iinc 5 1, 3) := by decide +kernel
theorem dX5_winsFrom_136 : decode cX5_winsFrom 136 = .ok (.goto (-125), 3) := by decide +kernel
theorem dX5_winsFrom_139 : decode cX5_winsFrom 139 = .ok (.iload_n 3, 1) := by decide +kernel
theorem dX5_winsFrom_140 : decode cX5_winsFrom 140 = .ok (.ireturn, 1) := by decide +kernel
theorem dX6_open_0 : decode cX6_open 0 = .ok (.aload_n 0, 1) := by decide +kernel
theorem dX6_open_1 : decode cX6_open 1 = .ok (.iconst 0, 1) := by decide +kernel
theorem dX6_open_2 : decode cX6_open 2 = .ok (.putfield 24, 3) := by decide +kernel
theorem dX6_open_5 : decode cX6_open 5 = .ok (.aload_n 0, 1) := by decide +kernel
theorem dX6_open_6 : decode cX6_open 6 = .ok (.iconst 0, 1) := by decide +kernel
theorem dX6_open_7 : decode cX6_open 7 = .ok (.putfield 28, 3) := by decide +kernel
theorem dX6_open_10 : decode cX6_open 10 = .ok (.aload_n 0, 1) := by decide +kernel
theorem dX6_open_11 : decode cX6_open 11 = .ok (.iconst (-1), 1) := by decide +kernel
theorem dX6_open_12 : decode cX6_open 12 = .ok (.putfield 31, 3) := by decide +kernel
theorem dX6_open_15 : decode cX6_open 15 = .ok (.aload_n 0, 1) := by decide +kernel
theorem dX6_open_16 : decode cX6_open 16 = .ok (.iconst 0, 1) := by decide +kernel
theorem dX6_open_17 : decode cX6_open 17 = .ok (.putfield 34, 3) := by decide +kernel
theorem dX6_open_20 : decode cX6_open 20 = .ok (.aload_n 0, 1) := by decide +kernel
theorem dX6_open_21 : decode cX6_open 21 = .ok (.getstatic 15, 3) := by decide +kernel
theorem dX6_open_24 : decode cX6_open 24 = .ok (.putfield 21, 3) := by decide +kernel
theorem dX6_open_27 : decode cX6_open 27 = .ok (.return_, 1) := by decide +kernel
theorem dX6_fail_0 : decode cX6_fail 0 = .ok (.aload_n 0, 1) := by decide +kernel
theorem dX6_fail_1 : decode cX6_fail 1 = .ok (.getfield 28, 3) := by decide +kernel
theorem dX6_fail_4 : decode cX6_fail 4 = .ok (.ifCond .ne 13, 3) := by decide +kernel
theorem dX6_fail_7 : decode cX6_fail 7 = .ok (.aload_n 0, 1) := by decide +kernel
theorem dX6_fail_8 : decode cX6_fail 8 = .ok (.iload_n 1, 1) := by decide +kernel
theorem dX6_fail_9 : decode cX6_fail 9 = .ok (.putfield 28, 3) := by decide +kernel
theorem dX6_fail_12 : decode cX6_fail 12 = .ok (.aload_n 0, 1) := by decide +kernel
theorem dX6_fail_13 : decode cX6_fail 13 = .ok (.iload_n 2, 1) := by decide +kernel
theorem dX6_fail_14 : decode cX6_fail 14 = .ok (.putfield 31, 3) := by decide +kernel
theorem dX6_fail_17 : decode cX6_fail 17 = .ok (.aload_n 0, 1) := by decide +kernel
theorem dX6_fail_18 : decode cX6_fail 18 = .ok (.iconst 0, 1) := by decide +kernel
theorem dX6_fail_19 : decode cX6_fail 19 = .ok (.putfield 34, 3) := by decide +kernel
theorem dX6_fail_22 : decode cX6_fail 22 = .ok (.aload_n 0, 1) := by decide +kernel
theorem dX6_fail_23 : decode cX6_fail 23 = .ok (.getstatic 15, 3) := by decide +kernel
theorem dX6_fail_26 : decode cX6_fail 26 = .ok (.putfield 21, 3) := by decide +kernel
theorem dX6_fail_29 : decode cX6_fail 29 = .ok (.return_, 1) := by decide +kernel
theorem dX6_failHere_0 : decode cX6_failHere 0 = .ok (.aload_n 0, 1) := by decide +kernel
theorem dX6_failHere_1 : decode cX6_failHere 1 = .ok (.iload_n 1, 1) := by decide +kernel
theorem dX6_failHere_2 : decode cX6_failHere 2 = .ok (.aload_n 0, 1) := by decide +kernel
theorem dX6_failHere_3 : decode cX6_failHere 3 = .ok (.getfield 37, 3) := by decide +kernel
theorem dX6_failHere_6 : decode cX6_failHere 6 = .ok (.invokevirtual 40, 3) := by decide +kernel
theorem dX6_failHere_9 : decode cX6_failHere 9 = .ok (.return_, 1) := by decide +kernel
theorem dX6_isGood_0 : decode cX6_isGood 0 = .ok (.aload_n 0, 1) := by decide +kernel
theorem dX6_isGood_1 : decode cX6_isGood 1 = .ok (.getfield 28, 3) := by decide +kernel
theorem dX6_isGood_4 : decode cX6_isGood 4 = .ok (.ifCond .ne 7, 3) := by decide +kernel
theorem dX6_isGood_7 : decode cX6_isGood 7 = .ok (.iconst 1, 1) := by decide +kernel
theorem dX6_isGood_8 : decode cX6_isGood 8 = .ok (.goto 4, 3) := by decide +kernel
theorem dX6_isGood_11 : decode cX6_isGood 11 = .ok (.iconst 0, 1) := by decide +kernel
theorem dX6_isGood_12 : decode cX6_isGood 12 = .ok (.ireturn, 1) := by decide +kernel
theorem dX6_isSign_0 : decode cX6_isSign 0 = .ok (.aload_n 0, 1) := by decide +kernel
theorem dX6_isSign_1 : decode cX6_isSign 1 = .ok (.getfield 34, 3) := by decide +kernel
theorem dX6_isSign_4 : decode cX6_isSign 4 = .ok (.iconst 3, 1) := by decide +kernel
theorem dX6_isSign_5 : decode cX6_isSign 5 = .ok (.if_icmp .ne 15, 3) := by decide +kernel
theorem dX6_isSign_8 : decode cX6_isSign 8 = .ok (.aload_n 0, 1) := by decide +kernel
theorem dX6_isSign_9 : decode cX6_isSign 9 = .ok (.getfield 44, 3) := by decide +kernel
theorem dX6_isSign_12 : decode cX6_isSign 12 = .ok (.iload_n 1, 1) := by decide +kernel
theorem dX6_isSign_13 : decode cX6_isSign 13 = .ok (.if_icmp .ne 7, 3) := by decide +kernel
theorem dX6_isSign_16 : decode cX6_isSign 16 = .ok (.iconst 1, 1) := by decide +kernel
theorem dX6_isSign_17 : decode cX6_isSign 17 = .ok (.goto 4, 3) := by decide +kernel
theorem dX6_isSign_20 : decode cX6_isSign 20 = .ok (.iconst 0, 1) := by decide +kernel
theorem dX6_isSign_21 : decode cX6_isSign 21 = .ok (.ireturn, 1) := by decide +kernel
theorem dX6_isName_0 : decode cX6_isName 0 = .ok (.aload_n 0, 1) := by decide +kernel
theorem dX6_isName_1 : decode cX6_isName 1 = .ok (.getfield 34, 3) := by decide +kernel
theorem dX6_isName_4 : decode cX6_isName 4 = .ok (.iconst 1, 1) := by decide +kernel
theorem dX6_isName_5 : decode cX6_isName 5 = .ok (.if_icmp .ne 17, 3) := by decide +kernel
theorem dX6_isName_8 : decode cX6_isName 8 = .ok (.aload_n 0, 1) := by decide +kernel
theorem dX6_isName_9 : decode cX6_isName 9 = .ok (.getfield 21, 3) := by decide +kernel
theorem dX6_isName_12 : decode cX6_isName 12 = .ok (.getstatic 15, 3) := by decide +kernel
theorem dX6_isName_15 : decode cX6_isName 15 = .ok (.if_acmp .ne 7, 3) := by decide +kernel
theorem dX6_isName_18 : decode cX6_isName 18 = .ok (.iconst 1, 1) := by decide +kernel
theorem dX6_isName_19 : decode cX6_isName 19 = .ok (.goto 4, 3) := by decide +kernel
theorem dX6_isName_22 : decode cX6_isName 22 = .ok (.iconst 0, 1) := by decide +kernel
theorem dX6_isName_23 : decode cX6_isName 23 = .ok (.ireturn, 1) := by decide +kernel
theorem dX6_goesOn_0 : decode cX6_goesOn 0 = .ok (.aload_n 0, 1) := by decide +kernel
theorem dX6_goesOn_1 : decode cX6_goesOn 1 = .ok (.getfield 24, 3) := by decide +kernel
theorem dX6_goesOn_4 : decode cX6_goesOn 4 = .ok (.aload_n 0, 1) := by decide +kernel
theorem dX6_goesOn_5 : decode cX6_goesOn 5 = .ok (.getfield 9, 3) := by decide +kernel
theorem dX6_goesOn_8 : decode cX6_goesOn 8 = .ok (.getfield 47, 3) := by decide +kernel
theorem dX6_goesOn_11 : decode cX6_goesOn 11 = .ok (.if_icmp .ge 33, 3) := by decide +kernel
theorem dX6_goesOn_14 : decode cX6_goesOn 14 = .ok (.aload_n 0, 1) := by decide +kernel
theorem dX6_goesOn_15 : decode cX6_goesOn 15 = .ok (.getfield 9, 3) := by decide +kernel
theorem dX6_goesOn_18 : decode cX6_goesOn 18 = .ok (.aload_n 0, 1) := by decide +kernel
theorem dX6_goesOn_19 : decode cX6_goesOn 19 = .ok (.getfield 24, 3) := by decide +kernel
theorem dX6_goesOn_22 : decode cX6_goesOn 22 = .ok (.invokevirtual 52, 3) := by decide +kernel
theorem dX6_goesOn_25 : decode cX6_goesOn 25 = .ok (.invokestatic 56, 3) := by decide +kernel
theorem dX6_goesOn_28 : decode cX6_goesOn 28 = .ok (.ifCond .eq 16, 3) := by decide +kernel
theorem dX6_goesOn_31 : decode cX6_goesOn 31 = .ok (.aload_n 0, 1) := by decide +kernel
theorem dX6_goesOn_32 : decode cX6_goesOn 32 = .ok (.dup, 1) := by decide +kernel
theorem dX6_goesOn_33 : decode cX6_goesOn 33 = .ok (.getfield 24, 3) := by decide +kernel
theorem dX6_goesOn_36 : decode cX6_goesOn 36 = .ok (.iconst 1, 1) := by decide +kernel
theorem dX6_goesOn_37 : decode cX6_goesOn 37 = .ok (.iadd, 1) := by decide +kernel
theorem dX6_goesOn_38 : decode cX6_goesOn 38 = .ok (.putfield 24, 3) := by decide +kernel
theorem dX6_goesOn_41 : decode cX6_goesOn 41 = .ok (.goto (-41), 3) := by decide +kernel
theorem dX6_goesOn_44 : decode cX6_goesOn 44 = .ok (.aload_n 0, 1) := by decide +kernel
theorem dX6_goesOn_45 : decode cX6_goesOn 45 = .ok (.getfield 24, 3) := by decide +kernel
theorem dX6_goesOn_48 : decode cX6_goesOn 48 = .ok (.aload_n 0, 1) := by decide +kernel
theorem dX6_goesOn_49 : decode cX6_goesOn 49 = .ok (.getfield 9, 3) := by decide +kernel
theorem dX6_goesOn_52 : decode cX6_goesOn 52 = .ok (.getfield 47, 3) := by decide +kernel
theorem dX6_goesOn_55 : decode cX6_goesOn 55 = .ok (.if_icmp .ge 7, 3) := by decide +kernel
theorem dX6_goesOn_58 : decode cX6_goesOn 58 = .ok (.iconst 1, 1) := by decide +kernel
theorem dX6_goesOn_59 : decode cX6_goesOn 59 = .ok (.goto 4, 3) := by decide +kernel
theorem dX6_goesOn_62 : decode cX6_goesOn 62 = .ok (.iconst 0, 1) := by decide +kernel
theorem dX6_goesOn_63 : decode cX6_goesOn 63 = .ok (.ireturn, 1) := by decide +kernel
theorem dX6_advance_0 : decode cX6_advance 0 = .ok (.aload_n 0, 1) := by decide +kernel
theorem dX6_advance_1 : decode cX6_advance 1 = .ok (.getfield 28, 3) := by decide +kernel
theorem dX6_advance_4 : decode cX6_advance 4 = .ok (.ifCond .eq 4, 3) := by decide +kernel
theorem dX6_advance_7 : decode cX6_advance 7 = .ok (.return_, 1) := by decide +kernel
theorem dX6_advance_8 : decode cX6_advance 8 = .ok (.aload_n 0, 1) := by decide +kernel
theorem dX6_advance_9 : decode cX6_advance 9 = .ok (.invokevirtual 60, 3) := by decide +kernel
theorem dX6_advance_12 : decode cX6_advance 12 = .ok (.istore_n 1, 1) := by decide +kernel
theorem dX6_advance_13 : decode cX6_advance 13 = .ok (.aload_n 0, 1) := by decide +kernel
theorem dX6_advance_14 : decode cX6_advance 14 = .ok (.aload_n 0, 1) := by decide +kernel
theorem dX6_advance_15 : decode cX6_advance 15 = .ok (.getfield 24, 3) := by decide +kernel
theorem dX6_advance_18 : decode cX6_advance 18 = .ok (.putfield 37, 3) := by decide +kernel
theorem dX6_advance_21 : decode cX6_advance 21 = .ok (.aload_n 0, 1) := by decide +kernel
theorem dX6_advance_22 : decode cX6_advance 22 = .ok (.iconst 0, 1) := by decide +kernel
theorem dX6_advance_23 : decode cX6_advance 23 = .ok (.putfield 44, 3) := by decide +kernel
theorem dX6_advance_26 : decode cX6_advance 26 = .ok (.aload_n 0, 1) := by decide +kernel
theorem dX6_advance_27 : decode cX6_advance 27 = .ok (.getstatic 15, 3) := by decide +kernel
theorem dX6_advance_30 : decode cX6_advance 30 = .ok (.putfield 21, 3) := by decide +kernel
theorem dX6_advance_33 : decode cX6_advance 33 = .ok (.iload_n 1, 1) := by decide +kernel
theorem dX6_advance_34 : decode cX6_advance 34 = .ok (.ifCond .ne 11, 3) := by decide +kernel
theorem dX6_advance_37 : decode cX6_advance 37 = .ok (.aload_n 0, 1) := by decide +kernel
theorem dX6_advance_38 : decode cX6_advance 38 = .ok (.iconst 0, 1) := by decide +kernel
theorem dX6_advance_39 : decode cX6_advance 39 = .ok (.putfield 34, 3) := by decide +kernel
theorem dX6_advance_42 : decode cX6_advance 42 = .ok (.goto 113, 3) := by decide +kernel
theorem dX6_advance_45 : decode cX6_advance 45 = .ok (.aload_n 0, 1) := by decide +kernel
theorem dX6_advance_46 : decode cX6_advance 46 = .ok (.aload_n 0, 1) := by decide +kernel
theorem dX6_advance_47 : decode cX6_advance 47 = .ok (.getfield 24, 3) := by decide +kernel
theorem dX6_advance_50 : decode cX6_advance 50 = .ok (.iconst 1, 1) := by decide +kernel
theorem dX6_advance_51 : decode cX6_advance 51 = .ok (.isub, 1) := by decide +kernel
theorem dX6_advance_52 : decode cX6_advance 52 = .ok (.invokevirtual 64, 3) := by decide +kernel
theorem dX6_advance_55 : decode cX6_advance 55 = .ok (.ifCond .eq 22, 3) := by decide +kernel
theorem dX6_advance_58 : decode cX6_advance 58 = .ok (.aload_n 0, 1) := by decide +kernel
theorem dX6_advance_59 : decode cX6_advance 59 = .ok (.aload_n 0, 1) := by decide +kernel
theorem dX6_advance_60 : decode cX6_advance 60 = .ok (.getfield 24, 3) := by decide +kernel
theorem dX6_advance_63 : decode cX6_advance 63 = .ok (.invokevirtual 64, 3) := by decide +kernel
theorem dX6_advance_66 : decode cX6_advance 66 = .ok (.ifCond .eq 11, 3) := by decide +kernel
theorem dX6_advance_69 : decode cX6_advance 69 = .ok (.aload_n 0, 1) := by decide +kernel
theorem dX6_advance_70 : decode cX6_advance 70 = .ok (.iconst 1, 1) := by decide +kernel
theorem dX6_advance_71 : decode cX6_advance 71 = .ok (.invokevirtual 67, 3) := by decide +kernel
theorem dX6_advance_74 : decode cX6_advance 74 = .ok (.goto 81, 3) := by decide +kernel
theorem dX6_advance_77 : decode cX6_advance 77 = .ok (.aload_n 0, 1) := by decide +kernel
theorem dX6_advance_78 : decode cX6_advance 78 = .ok (.getfield 9, 3) := by decide +kernel
theorem dX6_advance_81 : decode cX6_advance 81 = .ok (.aload_n 0, 1) := by decide +kernel
theorem dX6_advance_82 : decode cX6_advance 82 = .ok (.getfield 24, 3) := by decide +kernel
theorem dX6_advance_85 : decode cX6_advance 85 = .ok (.invokevirtual 52, 3) := by decide +kernel
theorem dX6_advance_88 : decode cX6_advance 88 = .ok (.invokestatic 71, 3) := by decide +kernel
theorem dX6_advance_91 : decode cX6_advance 91 = .ok (.ifCond .eq 10, 3) := by decide +kernel
theorem dX6_advance_94 : decode cX6_advance 94 = .ok (.aload_n 0, 1) := by decide +kernel
theorem dX6_advance_95 : decode cX6_advance 95 = .ok (.invokevirtual 74, 3) := by decide +kernel
theorem dX6_advance_98 : decode cX6_advance 98 = .ok (.goto 57, 3) := by decide +kernel
theorem dX6_advance_101 : decode cX6_advance 101 = .ok (.aload_n 0, 1) := by decide +kernel
theorem dX6_advance_102 : decode cX6_advance 102 = .ok (.getfield 9, 3) := by decide +kernel
theorem dX6_advance_105 : decode cX6_advance 105 = .ok (.aload_n 0, 1) := by decide +kernel
theorem dX6_advance_106 : decode cX6_advance 106 = .ok (.getfield 24, 3) := by decide +kernel
theorem dX6_advance_109 : decode cX6_advance 109 = .ok (.invokevirtual 52, 3) := by decide +kernel
theorem dX6_advance_112 : decode cX6_advance 112 = .ok (.invokestatic 77, 3) := by decide +kernel
theorem dX6_advance_115 : decode cX6_advance 115 = .ok (.ifCond .eq 10, 3) := by decide +kernel
theorem dX6_advance_118 : decode cX6_advance 118 = .ok (.aload_n 0, 1) := by decide +kernel
theorem dX6_advance_119 : decode cX6_advance 119 = .ok (.invokevirtual 80, 3) := by decide +kernel
theorem dX6_advance_122 : decode cX6_advance 122 = .ok (.goto 33, 3) := by decide +kernel
theorem dX6_advance_125 : decode cX6_advance 125 = .ok (.aload_n 0, 1) := by decide +kernel
theorem dX6_advance_126 : decode cX6_advance 126 = .ok (.iconst 3, 1) := by decide +kernel
theorem dX6_advance_127 : decode cX6_advance 127 = .ok (.putfield 34, 3) := by decide +kernel
theorem dX6_advance_130 : decode cX6_advance 130 = .ok (.aload_n 0, 1) := by decide +kernel
theorem dX6_advance_131 : decode cX6_advance 131 = .ok (.aload_n 0, 1) := by decide +kernel
theorem dX6_advance_132 : decode cX6_advance 132 = .ok (.getfield 9, 3) := by decide +kernel
theorem dX6_advance_135 : decode cX6_advance 135 = .ok (.aload_n 0, 1) := by decide +kernel
theorem dX6_advance_136 : decode cX6_advance 136 = .ok (.getfield 24, 3) := by decide +kernel
theorem dX6_advance_139 : decode cX6_advance 139 = .ok (.invokevirtual 52, 3) := by decide +kernel
theorem dX6_advance_142 : decode cX6_advance 142 = .ok (.putfield 44, 3) := by decide +kernel
theorem dX6_advance_145 : decode cX6_advance 145 = .ok (.aload_n 0, 1) := by decide +kernel
theorem dX6_advance_146 : decode cX6_advance 146 = .ok (.dup, 1) := by decide +kernel
theorem dX6_advance_147 : decode cX6_advance 147 = .ok (.getfield 24, 3) := by decide +kernel
theorem dX6_advance_150 : decode cX6_advance 150 = .ok (.iconst 1, 1) := by decide +kernel
theorem dX6_advance_151 : decode cX6_advance 151 = .ok (.iadd, 1) := by decide +kernel
theorem dX6_advance_152 : decode cX6_advance 152 = .ok (.putfield 24, 3) := by decide +kernel
theorem dX6_advance_155 : decode cX6_advance 155 = .ok (.return_, 1) := by decide +kernel
theorem dX6_readWord_0 : decode cX6_readWord 0 = .ok (.aload_n 0, 1) := by decide +kernel
theorem dX6_readWord_1 : decode cX6_readWord 1 = .ok (.iconst 1, 1) := by decide +kernel
theorem dX6_readWord_2 : decode cX6_readWord 2 = .ok (.putfield 34, 3) := by decide +kernel
theorem dX6_readWord_5 : decode cX6_readWord 5 = .ok (.aload_n 0, 1) := by decide +kernel
theorem dX6_readWord_6 : decode cX6_readWord 6 = .ok (.getfield 24, 3) := by decide +kernel
theorem dX6_readWord_9 : decode cX6_readWord 9 = .ok (.aload_n 0, 1) := by decide +kernel
theorem dX6_readWord_10 : decode cX6_readWord 10 = .ok (.getfield 9, 3) := by decide +kernel
theorem dX6_readWord_13 : decode cX6_readWord 13 = .ok (.getfield 47, 3) := by decide +kernel
theorem dX6_readWord_16 : decode cX6_readWord 16 = .ok (.if_icmp .ge 85, 3) := by decide +kernel
theorem dX6_readWord_19 : decode cX6_readWord 19 = .ok (.aload_n 0, 1) := by decide +kernel
theorem dX6_readWord_20 : decode cX6_readWord 20 = .ok (.getfield 9, 3) := by decide +kernel
theorem dX6_readWord_23 : decode cX6_readWord 23 = .ok (.aload_n 0, 1) := by decide +kernel
theorem dX6_readWord_24 : decode cX6_readWord 24 = .ok (.getfield 24, 3) := by decide +kernel
theorem dX6_readWord_27 : decode cX6_readWord 27 = .ok (.invokevirtual 52, 3) := by decide +kernel
theorem dX6_readWord_30 : decode cX6_readWord 30 = .ok (.invokestatic 71, 3) := by decide +kernel
theorem dX6_readWord_33 : decode cX6_readWord 33 = .ok (.ifCond .eq 68, 3) := by decide +kernel
theorem dX6_readWord_36 : decode cX6_readWord 36 = .ok (.aload_n 0, 1) := by decide +kernel
theorem dX6_readWord_37 : decode cX6_readWord 37 = .ok (.getfield 24, 3) := by decide +kernel
theorem dX6_readWord_40 : decode cX6_readWord 40 = .ok (.aload_n 0, 1) := by decide +kernel
theorem dX6_readWord_41 : decode cX6_readWord 41 = .ok (.getfield 37, 3) := by decide +kernel
theorem dX6_readWord_44 : decode cX6_readWord 44 = .ok (.isub, 1) := by decide +kernel
theorem dX6_readWord_45 : decode cX6_readWord 45 = .ok (.bipush 6, 2) := by decide +kernel
theorem dX6_readWord_47 : decode cX6_readWord 47 = .ok (.if_icmp .ne 13, 3) := by decide +kernel
theorem dX6_readWord_50 : decode cX6_readWord 50 = .ok (.aload_n 0, 1) := by decide +kernel
theorem dX6_readWord_51 : decode cX6_readWord 51 = .ok (.iconst 1, 1) := by decide +kernel
theorem dX6_readWord_52 : decode cX6_readWord 52 = .ok (.aload_n 0, 1) := by decide +kernel
theorem dX6_readWord_53 : decode cX6_readWord 53 = .ok (.getfield 24, 3) := by decide +kernel
theorem dX6_readWord_56 : decode cX6_readWord 56 = .ok (.invokevirtual 40, 3) := by decide +kernel
theorem dX6_readWord_59 : decode cX6_readWord 59 = .ok (.return_, 1) := by decide +kernel
theorem dX6_readWord_60 : decode cX6_readWord 60 = .ok (.aload_n 0, 1) := by decide +kernel
theorem dX6_readWord_61 : decode cX6_readWord 61 = .ok (.aload_n 0, 1) := by decide +kernel
theorem dX6_readWord_62 : decode cX6_readWord 62 = .ok (.getfield 44, 3) := by decide +kernel
theorem dX6_readWord_65 : decode cX6_readWord 65 = .ok (.bipush 27, 2) := by decide +kernel
theorem dX6_readWord_67 : decode cX6_readWord 67 = .ok (.imul, 1) := by decide +kernel
theorem dX6_readWord_68 : decode cX6_readWord 68 = .ok (.aload_n 0, 1) := by decide +kernel
theorem dX6_readWord_69 : decode cX6_readWord 69 = .ok (.getfield 9, 3) := by decide +kernel
theorem dX6_readWord_72 : decode cX6_readWord 72 = .ok (.aload_n 0, 1) := by decide +kernel
theorem dX6_readWord_73 : decode cX6_readWord 73 = .ok (.getfield 24, 3) := by decide +kernel
theorem dX6_readWord_76 : decode cX6_readWord 76 = .ok (.invokevirtual 52, 3) := by decide +kernel
theorem dX6_readWord_79 : decode cX6_readWord 79 = .ok (.iadd, 1) := by decide +kernel
theorem dX6_readWord_80 : decode cX6_readWord 80 = .ok (.bipush 97, 2) := by decide +kernel
theorem dX6_readWord_82 : decode cX6_readWord 82 = .ok (.isub, 1) := by decide +kernel
theorem dX6_readWord_83 : decode cX6_readWord 83 = .ok (.iconst 1, 1) := by decide +kernel
theorem dX6_readWord_84 : decode cX6_readWord 84 = .ok (.iadd, 1) := by decide +kernel
theorem dX6_readWord_85 : decode cX6_readWord 85 = .ok (.putfield 44, 3) := by decide +kernel
theorem dX6_readWord_88 : decode cX6_readWord 88 = .ok (.aload_n 0, 1) := by decide +kernel
theorem dX6_readWord_89 : decode cX6_readWord 89 = .ok (.dup, 1) := by decide +kernel
theorem dX6_readWord_90 : decode cX6_readWord 90 = .ok (.getfield 24, 3) := by decide +kernel
theorem dX6_readWord_93 : decode cX6_readWord 93 = .ok (.iconst 1, 1) := by decide +kernel
theorem dX6_readWord_94 : decode cX6_readWord 94 = .ok (.iadd, 1) := by decide +kernel
theorem dX6_readWord_95 : decode cX6_readWord 95 = .ok (.putfield 24, 3) := by decide +kernel
theorem dX6_readWord_98 : decode cX6_readWord 98 = .ok (.goto (-93), 3) := by decide +kernel
theorem dX6_readWord_101 : decode cX6_readWord 101 = .ok (.aload_n 0, 1) := by decide +kernel
theorem dX6_readWord_102 : decode cX6_readWord 102 = .ok (.getfield 24, 3) := by decide +kernel
theorem dX6_readWord_105 : decode cX6_readWord 105 = .ok (.aload_n 0, 1) := by decide +kernel
theorem dX6_readWord_106 : decode cX6_readWord 106 = .ok (.getfield 37, 3) := by decide +kernel
theorem dX6_readWord_109 : decode cX6_readWord 109 = .ok (.isub, 1) := by decide +kernel
theorem dX6_readWord_110 : decode cX6_readWord 110 = .ok (.istore_n 1, 1) := by decide +kernel
theorem dX6_readWord_111 : decode cX6_readWord 111 = .ok (.iload_n 1, 1) := by decide +kernel
theorem dX6_readWord_112 : decode cX6_readWord 112 = .ok (.bipush 6, 2) := by decide +kernel
theorem dX6_readWord_114 : decode cX6_readWord 114 = .ok (.if_icmp .ge 20, 3) := by decide +kernel
theorem dX6_readWord_117 : decode cX6_readWord 117 = .ok (.aload_n 0, 1) := by decide +kernel
theorem dX6_readWord_118 : decode cX6_readWord 118 = .ok (.dup, 1) := by decide +kernel
theorem dX6_readWord_119 : decode cX6_readWord 119 = .ok (.getfield 44, 3) := by decide +kernel
theorem dX6_readWord_122 : decode cX6_readWord 122 = .ok (.bipush 27, 2) := by decide +kernel
theorem dX6_readWord_124 : decode cX6_readWord 124 = .ok (.imul, 1) := by decide +kernel
theorem dX6_readWord_125 : decode cX6_readWord 125 = .ok (.putfield 44, 3) := by decide +kernel
theorem dX6_readWord_128 : decode cX6_readWord 128 = .ok (.iinc 1 1, 3) := by decide +kernel
theorem dX6_readWord_131 : decode cX6_readWord 131 = .ok (.goto (-20), 3) := by decide +kernel
theorem dX6_readWord_134 : decode cX6_readWord 134 = .ok (.iconst 0, 1) := by decide +kernel
theorem dX6_readWord_135 : decode cX6_readWord 135 = .ok (.istore_n 1, 1) := by decide +kernel
theorem dX6_readWord_136 : decode cX6_readWord 136 = .ok (.iload_n 1, 1) := by decide +kernel
theorem dX6_readWord_137 : decode cX6_readWord 137 = .ok (.getstatic 83, 3) := by decide +kernel
theorem dX6_readWord_140 : decode cX6_readWord 140 = .ok (.arraylength, 1) := by decide +kernel
theorem dX6_readWord_141 : decode cX6_readWord 141 = .ok (.if_icmp .ge 33, 3) := by decide +kernel
theorem dX6_readWord_144 : decode cX6_readWord 144 = .ok (.getstatic 83, 3) := by decide +kernel
theorem dX6_readWord_147 : decode cX6_readWord 147 = .ok (.iload_n 1, 1) := by decide +kernel
theorem dX6_readWord_148 : decode cX6_readWord 148 = .ok (.aaload, 1) := by decide +kernel
theorem dX6_readWord_149 : decode cX6_readWord 149 = .ok (.getfield 87, 3) := by decide +kernel
theorem dX6_readWord_152 : decode cX6_readWord 152 = .ok (.aload_n 0, 1) := by decide +kernel
theorem dX6_readWord_153 : decode cX6_readWord 153 = .ok (.getfield 44, 3) := by decide +kernel
theorem dX6_readWord_156 : decode cX6_readWord 156 = .ok (.if_icmp .ne 12, 3) := by decide +kernel
theorem dX6_readWord_159 : decode cX6_readWord 159 = .ok (.aload_n 0, 1) := by decide +kernel
theorem dX6_readWord_160 : decode cX6_readWord 160 = .ok (.getstatic 83, 3) := by decide +kernel
theorem dX6_readWord_163 : decode cX6_readWord 163 = .ok (.iload_n 1, 1) := by decide +kernel
theorem dX6_readWord_164 : decode cX6_readWord 164 = .ok (.aaload, 1) := by decide +kernel
theorem dX6_readWord_165 : decode cX6_readWord 165 = .ok (.putfield 21, 3) := by decide +kernel
theorem dX6_readWord_168 : decode cX6_readWord 168 = .ok (.iinc 1 1, 3) := by decide +kernel
theorem dX6_readWord_171 : decode cX6_readWord 171 = .ok (.goto (-35), 3) := by decide +kernel
theorem dX6_readWord_174 : decode cX6_readWord 174 = .ok (.return_, 1) := by decide +kernel
theorem dX6_readNumber_0 : decode cX6_readNumber 0 = .ok (.aload_n 0, 1) := by decide +kernel
theorem dX6_readNumber_1 : decode cX6_readNumber 1 = .ok (.iconst 2, 1) := by decide +kernel
theorem dX6_readNumber_2 : decode cX6_readNumber 2 = .ok (.putfield 34, 3) := by decide +kernel
theorem dX6_readNumber_5 : decode cX6_readNumber 5 = .ok (.aload_n 0, 1) := by decide +kernel
theorem dX6_readNumber_6 : decode cX6_readNumber 6 = .ok (.getfield 24, 3) := by decide +kernel
theorem dX6_readNumber_9 : decode cX6_readNumber 9 = .ok (.aload_n 0, 1) := by decide +kernel
theorem dX6_readNumber_10 : decode cX6_readNumber 10 = .ok (.getfield 9, 3) := by decide +kernel
theorem dX6_readNumber_13 : decode cX6_readNumber 13 = .ok (.getfield 47, 3) := by decide +kernel
theorem dX6_readNumber_16 : decode cX6_readNumber 16 = .ok (.if_icmp .ge 82, 3) := by decide +kernel
theorem dX6_readNumber_19 : decode cX6_readNumber 19 = .ok (.aload_n 0, 1) := by decide +kernel
theorem dX6_readNumber_20 : decode cX6_readNumber 20 = .ok (.getfield 9, 3) := by decide +kernel
theorem dX6_readNumber_23 : decode cX6_readNumber 23 = .ok (.aload_n 0, 1) := by decide +kernel
theorem dX6_readNumber_24 : decode cX6_readNumber 24 = .ok (.getfield 24, 3) := by decide +kernel
theorem dX6_readNumber_27 : decode cX6_readNumber 27 = .ok (.invokevirtual 52, 3) := by decide +kernel
theorem dX6_readNumber_30 : decode cX6_readNumber 30 = .ok (.invokestatic 77, 3) := by decide +kernel
theorem dX6_readNumber_33 : decode cX6_readNumber 33 = .ok (.ifCond .eq 65, 3) := by decide +kernel
theorem dX6_readNumber_36 : decode cX6_readNumber 36 = .ok (.aload_n 0, 1) := by decide +kernel
theorem dX6_readNumber_37 : decode cX6_readNumber 37 = .ok (.getfield 24, 3) := by decide +kernel
theorem dX6_readNumber_40 : decode cX6_readNumber 40 = .ok (.aload_n 0, 1) := by decide +kernel
theorem dX6_readNumber_41 : decode cX6_readNumber 41 = .ok (.getfield 37, 3) := by decide +kernel
theorem dX6_readNumber_44 : decode cX6_readNumber 44 = .ok (.isub, 1) := by decide +kernel
theorem dX6_readNumber_45 : decode cX6_readNumber 45 = .ok (.iconst 4, 1) := by decide +kernel
theorem dX6_readNumber_46 : decode cX6_readNumber 46 = .ok (.if_icmp .ne 13, 3) := by decide +kernel
theorem dX6_readNumber_49 : decode cX6_readNumber 49 = .ok (.aload_n 0, 1) := by decide +kernel
theorem dX6_readNumber_50 : decode cX6_readNumber 50 = .ok (.iconst 1, 1) := by decide +kernel
theorem dX6_readNumber_51 : decode cX6_readNumber 51 = .ok (.aload_n 0, 1) := by decide +kernel
theorem dX6_readNumber_52 : decode cX6_readNumber 52 = .ok (.getfield 24, 3) := by decide +kernel
theorem dX6_readNumber_55 : decode cX6_readNumber 55 = .ok (.invokevirtual 40, 3) := by decide +kernel
theorem dX6_readNumber_58 : decode cX6_readNumber 58 = .ok (.return_, 1) := by decide +kernel
theorem dX6_readNumber_59 : decode cX6_readNumber 59 = .ok (.aload_n 0, 1) := by decide +kernel
theorem dX6_readNumber_60 : decode cX6_readNumber 60 = .ok (.aload_n 0, 1) := by decide +kernel
theorem dX6_readNumber_61 : decode cX6_readNumber 61 = .ok (.getfield 44, 3) := by decide +kernel
theorem dX6_readNumber_64 : decode cX6_readNumber 64 = .ok (.bipush 10, 2) := by decide +kernel
theorem dX6_readNumber_66 : decode cX6_readNumber 66 = .ok (.imul, 1) := by decide +kernel
theorem dX6_readNumber_67 : decode cX6_readNumber 67 = .ok (.aload_n 0, 1) := by decide +kernel
theorem dX6_readNumber_68 : decode cX6_readNumber 68 = .ok (.getfield 9, 3) := by decide +kernel
theorem dX6_readNumber_71 : decode cX6_readNumber 71 = .ok (.aload_n 0, 1) := by decide +kernel
theorem dX6_readNumber_72 : decode cX6_readNumber 72 = .ok (.getfield 24, 3) := by decide +kernel
theorem dX6_readNumber_75 : decode cX6_readNumber 75 = .ok (.invokevirtual 52, 3) := by decide +kernel
theorem dX6_readNumber_78 : decode cX6_readNumber 78 = .ok (.iadd, 1) := by decide +kernel
theorem dX6_readNumber_79 : decode cX6_readNumber 79 = .ok (.bipush 48, 2) := by decide +kernel
theorem dX6_readNumber_81 : decode cX6_readNumber 81 = .ok (.isub, 1) := by decide +kernel
theorem dX6_readNumber_82 : decode cX6_readNumber 82 = .ok (.putfield 44, 3) := by decide +kernel
theorem dX6_readNumber_85 : decode cX6_readNumber 85 = .ok (.aload_n 0, 1) := by decide +kernel
theorem dX6_readNumber_86 : decode cX6_readNumber 86 = .ok (.dup, 1) := by decide +kernel
theorem dX6_readNumber_87 : decode cX6_readNumber 87 = .ok (.getfield 24, 3) := by decide +kernel
theorem dX6_readNumber_90 : decode cX6_readNumber 90 = .ok (.iconst 1, 1) := by decide +kernel
theorem dX6_readNumber_91 : decode cX6_readNumber 91 = .ok (.iadd, 1) := by decide +kernel
theorem dX6_readNumber_92 : decode cX6_readNumber 92 = .ok (.putfield 24, 3) := by decide +kernel
theorem dX6_readNumber_95 : decode cX6_readNumber 95 = .ok (.goto (-90), 3) := by decide +kernel
theorem dX6_readNumber_98 : decode cX6_readNumber 98 = .ok (.return_, 1) := by decide +kernel
theorem dX6_joins_0 : decode cX6_joins 0 = .ok (.aload_n 0, 1) := by decide +kernel
theorem dX6_joins_1 : decode cX6_joins 1 = .ok (.getfield 9, 3) := by decide +kernel
theorem dX6_joins_4 : decode cX6_joins 4 = .ok (.iload_n 1, 1) := by decide +kernel
theorem dX6_joins_5 : decode cX6_joins 5 = .ok (.invokevirtual 52, 3) := by decide +kernel
theorem dX6_joins_8 : decode cX6_joins 8 = .ok (.invokestatic 71, 3) := by decide +kernel
theorem dX6_joins_11 : decode cX6_joins 11 = .ok (.ifCond .ne 17, 3) := by decide +kernel
theorem dX6_joins_14 : decode cX6_joins 14 = .ok (.aload_n 0, 1) := by decide +kernel
theorem dX6_joins_15 : decode cX6_joins 15 = .ok (.getfield 9, 3) := by decide +kernel
theorem dX6_joins_18 : decode cX6_joins 18 = .ok (.iload_n 1, 1) := by decide +kernel
theorem dX6_joins_19 : decode cX6_joins 19 = .ok (.invokevirtual 52, 3) := by decide +kernel
theorem dX6_joins_22 : decode cX6_joins 22 = .ok (.invokestatic 77, 3) := by decide +kernel
theorem dX6_joins_25 : decode cX6_joins 25 = .ok (.ifCond .eq 7, 3) := by decide +kernel
theorem dX6_joins_28 : decode cX6_joins 28 = .ok (.iconst 1, 1) := by decide +kernel
theorem dX6_joins_29 : decode cX6_joins 29 = .ok (.goto 4, 3) := by decide +kernel
theorem dX6_joins_32 : decode cX6_joins 32 = .ok (.iconst 0, 1) := by decide +kernel
theorem dX6_joins_33 : decode cX6_joins 33 = .ok (.ireturn, 1) := by decide +kernel
theorem dX6_isBlank_0 : decode cX6_isBlank 0 = .ok (.iload_n 0, 1) := by decide +kernel
theorem dX6_isBlank_1 : decode cX6_isBlank 1 = .ok (.bipush 10, 2) := by decide +kernel
theorem dX6_isBlank_3 : decode cX6_isBlank 3 = .ok (.if_icmp .eq 9, 3) := by decide +kernel
theorem dX6_isBlank_6 : decode cX6_isBlank 6 = .ok (.iload_n 0, 1) := by decide +kernel
theorem dX6_isBlank_7 : decode cX6_isBlank 7 = .ok (.bipush 32, 2) := by decide +kernel
theorem dX6_isBlank_9 : decode cX6_isBlank 9 = .ok (.if_icmp .ne 7, 3) := by decide +kernel
theorem dX6_isBlank_12 : decode cX6_isBlank 12 = .ok (.iconst 1, 1) := by decide +kernel
theorem dX6_isBlank_13 : decode cX6_isBlank 13 = .ok (.goto 4, 3) := by decide +kernel
theorem dX6_isBlank_16 : decode cX6_isBlank 16 = .ok (.iconst 0, 1) := by decide +kernel
theorem dX6_isBlank_17 : decode cX6_isBlank 17 = .ok (.ireturn, 1) := by decide +kernel
theorem dX6_isLetter_0 : decode cX6_isLetter 0 = .ok (.iload_n 0, 1) := by decide +kernel
theorem dX6_isLetter_1 : decode cX6_isLetter 1 = .ok (.bipush 97, 2) := by decide +kernel
theorem dX6_isLetter_3 : decode cX6_isLetter 3 = .ok (.if_icmp .lt 13, 3) := by decide +kernel
theorem dX6_isLetter_6 : decode cX6_isLetter 6 = .ok (.iload_n 0, 1) := by decide +kernel
theorem dX6_isLetter_7 : decode cX6_isLetter 7 = .ok (.bipush 122, 2) := by decide +kernel
theorem dX6_isLetter_9 : decode cX6_isLetter 9 = .ok (.if_icmp .gt 7, 3) := by decide +kernel
theorem dX6_isLetter_12 : decode cX6_isLetter 12 = .ok (.iconst 1, 1) := by decide +kernel
theorem dX6_isLetter_13 : decode cX6_isLetter 13 = .ok (.goto 4, 3) := by decide +kernel
theorem dX6_isLetter_16 : decode cX6_isLetter 16 = .ok (.iconst 0, 1) := by decide +kernel
theorem dX6_isLetter_17 : decode cX6_isLetter 17 = .ok (.ireturn, 1) := by decide +kernel
theorem dX6_isDigit_0 : decode cX6_isDigit 0 = .ok (.iload_n 0, 1) := by decide +kernel
theorem dX6_isDigit_1 : decode cX6_isDigit 1 = .ok (.bipush 48, 2) := by decide +kernel
theorem dX6_isDigit_3 : decode cX6_isDigit 3 = .ok (.if_icmp .lt 13, 3) := by decide +kernel
theorem dX6_isDigit_6 : decode cX6_isDigit 6 = .ok (.iload_n 0, 1) := by decide +kernel
theorem dX6_isDigit_7 : decode cX6_isDigit 7 = .ok (.bipush 57, 2) := by decide +kernel
theorem dX6_isDigit_9 : decode cX6_isDigit 9 = .ok (.if_icmp .gt 7, 3) := by decide +kernel
theorem dX6_isDigit_12 : decode cX6_isDigit 12 = .ok (.iconst 1, 1) := by decide +kernel
theorem dX6_isDigit_13 : decode cX6_isDigit 13 = .ok (.goto 4, 3) := by decide +kernel
theorem dX6_isDigit_16 : decode cX6_isDigit 16 = .ok (.iconst 0, 1) := by decide +kernel
theorem dX6_isDigit_17 : decode cX6_isDigit 17 = .ok (.ireturn, 1) := by decide +kernel
theorem dX7_forget_0 : decode cX7_forget 0 = .ok (.aload_n 0, 1) := by decide +kernel
theorem dX7_forget_1 : decode cX7_forget 1 = .ok (.iconst 1, 1) := by decide +kernel
theorem dX7_forget_2 : decode cX7_forget 2 = .ok (.aload_n 1, 1) := by decide +kernel
theorem dX7_forget_3 : decode cX7_forget 3 = .ok (.invokevirtual 15, 3) := by decide +kernel
theorem dX7_forget_6 : decode cX7_forget 6 = .ok (.ishl, 1) := by decide +kernel
theorem dX7_forget_7 : decode cX7_forget 7 = .ok (.iconst 1, 1) := by decide +kernel
theorem dX7_forget_8 : decode cX7_forget 8 = .ok (.isub, 1) := by decide +kernel
theorem dX7_forget_9 : decode cX7_forget 9 = .ok (.putfield 21, 3) := by decide +kernel
theorem dX7_forget_12 : decode cX7_forget 12 = .ok (.aload_n 0, 1) := by decide +kernel
theorem dX7_forget_13 : decode cX7_forget 13 = .ok (.iconst 0, 1) := by decide +kernel
theorem dX7_forget_14 : decode cX7_forget 14 = .ok (.putfield 25, 3) := by decide +kernel
theorem dX7_forget_17 : decode cX7_forget 17 = .ok (.return_, 1) := by decide +kernel
theorem dX7_take_0 : decode cX7_take 0 = .ok (.aload_n 2, 1) := by decide +kernel
theorem dX7_take_1 : decode cX7_take 1 = .ok (.getfield 28, 3) := by decide +kernel
theorem dX7_take_4 : decode cX7_take 4 = .ok (.iconst 3, 1) := by decide +kernel
theorem dX7_take_5 : decode cX7_take 5 = .ok (.idiv, 1) := by decide +kernel
theorem dX7_take_6 : decode cX7_take 6 = .ok (.istore 4, 2) := by decide +kernel
theorem dX7_take_8 : decode cX7_take 8 = .ok (.aload_n 2, 1) := by decide +kernel
theorem dX7_take_9 : decode cX7_take 9 = .ok (.getfield 28, 3) := by decide +kernel
theorem dX7_take_12 : decode cX7_take 12 = .ok (.iconst 3, 1) := by decide +kernel
theorem dX7_take_13 : decode cX7_take 13 = .ok (.irem, 1) := by decide +kernel
theorem dX7_take_14 : decode cX7_take 14 = .ok (.ifCond .ne 16, 3) := by decide +kernel
theorem dX7_take_17 : decode cX7_take 17 = .ok (.iload 4, 2) := by decide +kernel
theorem dX7_take_19 : decode cX7_take 19 = .ok (.iconst 1, 1) := by decide +kernel
theorem dX7_take_20 : decode cX7_take 20 = .ok (.if_icmp .lt 10, 3) := by decide +kernel
theorem dX7_take_23 : decode cX7_take 23 = .ok (.iload 4, 2) := by decide +kernel
theorem dX7_take_25 : decode cX7_take 25 = .ok (.bipush 16, 2) := by decide +kernel
theorem dX7_take_27 : decode cX7_take 27 = .ok (.if_icmp .le 5, 3) := by decide +kernel
theorem dX7_take_30 : decode cX7_take 30 = .ok (.iconst 0, 1) := by decide +kernel
theorem dX7_take_31 : decode cX7_take 31 = .ok (.ireturn, 1) := by decide +kernel
theorem dX7_take_32 : decode cX7_take 32 = .ok (.iload_n 3, 1) := by decide +kernel
theorem dX7_take_33 : decode cX7_take 33 = .ok (.ifCond .lt 9, 3) := by decide +kernel
theorem dX7_take_36 : decode cX7_take 36 = .ok (.iload_n 3, 1) := by decide +kernel
theorem dX7_take_37 : decode cX7_take 37 = .ok (.bipush 99, 2) := by decide +kernel
theorem dX7_take_39 : decode cX7_take 39 = .ok (.if_icmp .le 5, 3) := by decide +kernel
theorem dX7_take_42 : decode cX7_take 42 = .ok (.iconst 0, 1) := by decide +kernel
theorem dX7_take_43 : decode cX7_take 43 = .ok (.ireturn, 1) := by decide +kernel
theorem dX7_take_44 : decode cX7_take 44 = .ok (.iconst 0, 1) := by decide +kernel
theorem dX7_take_45 : decode cX7_take 45 = .ok (.istore 5, 2) := by decide +kernel
theorem dX7_take_47 : decode cX7_take 47 = .ok (.iload 5, 2) := by decide +kernel
theorem dX7_take_49 : decode cX7_take 49 = .ok (.iload 4, 2) := by decide +kernel
theorem dX7_take_51 : decode cX7_take 51 = .ok (.if_icmp .ge 36, 3) := by decide +kernel
theorem dX7_take_54 : decode cX7_take 54 = .ok (.aload_n 2, 1) := by decide +kernel
theorem dX7_take_55 : decode cX7_take 55 = .ok (.iload 5, 2) := by decide +kernel
theorem dX7_take_57 : decode cX7_take 57 = .ok (.iconst 3, 1) := by decide +kernel
theorem dX7_take_58 : decode cX7_take 58 = .ok (.imul, 1) := by decide +kernel
theorem dX7_take_59 : decode cX7_take 59 = .ok (.invokevirtual 33, 3) := by decide +kernel
theorem dX7_take_62 : decode cX7_take 62 = .ok (.istore 6, 2) := by decide +kernel
theorem dX7_take_64 : decode cX7_take 64 = .ok (.iload 6, 2) := by decide +kernel
theorem dX7_take_66 : decode cX7_take 66 = .ok (.iconst 1, 1) := by decide +kernel
theorem dX7_take_67 : decode cX7_take 67 = .ok (.if_icmp .lt 12, 3) := by decide +kernel
theorem dX7_take_70 : decode cX7_take 70 = .ok (.iload 6, 2) := by decide +kernel
theorem dX7_take_72 : decode cX7_take 72 = .ok (.aload_n 1, 1) := by decide +kernel
theorem dX7_take_73 : decode cX7_take 73 = .ok (.invokevirtual 37, 3) := by decide +kernel
theorem dX7_take_76 : decode cX7_take 76 = .ok (.if_icmp .le 5, 3) := by decide +kernel
theorem dX7_take_79 : decode cX7_take 79 = .ok (.iconst 0, 1) := by decide +kernel
theorem dX7_take_80 : decode cX7_take 80 = .ok (.ireturn, 1) := by decide +kernel
theorem dX7_take_81 : decode cX7_take 81 = .ok (.iinc 5 1, 3) := by decide +kernel
theorem dX7_take_84 : decode cX7_take 84 = .ok (.goto (-37), 3) := by decide +kernel
theorem dX7_take_87 : decode cX7_take 87 = .ok (.aload_n 0, 1) := by decide +kernel
theorem dX7_take_88 : decode cX7_take 88 = .ok (.iload_n 3, 1) := by decide +kernel
theorem dX7_take_89 : decode cX7_take 89 = .ok (.putfield 25, 3) := by decide +kernel
theorem dX7_take_92 : decode cX7_take 92 = .ok (.aload_n 0, 1) := by decide +kernel
theorem dX7_take_93 : decode cX7_take 93 = .ok (.iconst 0, 1) := by decide +kernel
theorem dX7_take_94 : decode cX7_take 94 = .ok (.putfield 21, 3) := by decide +kernel
theorem dX7_take_97 : decode cX7_take 97 = .ok (.iconst 0, 1) := by decide +kernel
theorem dX7_take_98 : decode cX7_take 98 = .ok (.istore 5, 2) := by decide +kernel
theorem dX7_take_100 : decode cX7_take 100 = .ok (.iload 5, 2) := by decide +kernel
theorem dX7_take_102 : decode cX7_take 102 = .ok (.aload_n 1, 1) := by decide +kernel
theorem dX7_take_103 : decode cX7_take 103 = .ok (.invokevirtual 15, 3) := by decide +kernel
theorem dX7_take_106 : decode cX7_take 106 = .ok (.if_icmp .ge 37, 3) := by decide +kernel
theorem dX7_take_109 : decode cX7_take 109 = .ok (.aload_n 0, 1) := by decide +kernel
theorem dX7_take_110 : decode cX7_take 110 = .ok (.dup, 1) := by decide +kernel
theorem dX7_take_111 : decode cX7_take 111 = .ok (.getfield 21, 3) := by decide +kernel
theorem dX7_take_114 : decode cX7_take 114 = .ok (.aload_n 0, 1) := by decide +kernel
theorem dX7_take_115 : decode cX7_take 115 = .ok (.aload_n 1, 1) := by decide +kernel
theorem dX7_take_116 : decode cX7_take 116 = .ok (.aload_n 2, 1) := by decide +kernel
theorem dX7_take_117 : decode cX7_take 117 = .ok (.iload 5, 2) := by decide +kernel
theorem dX7_take_119 : decode cX7_take 119 = .ok (.invokevirtual 40, 3) := by decide +kernel
theorem dX7_take_122 : decode cX7_take 122 = .ok (.ifCond .eq 10, 3) := by decide +kernel
theorem dX7_take_125 : decode cX7_take 125 = .ok (.iconst 1, 1) := by decide +kernel
theorem dX7_take_126 : decode cX7_take 126 = .ok (.iload 5, 2) := by decide +kernel
theorem dX7_take_128 : decode cX7_take 128 = .ok (.ishl, 1) := by decide +kernel
theorem dX7_take_129 : decode cX7_take 129 = .ok (.goto 4, 3) := by decide +kernel
theorem dX7_take_132 : decode cX7_take 132 = .ok (.iconst 0, 1) := by decide +kernel
theorem dX7_take_133 : decode cX7_take 133 = .ok (.ior, 1) := by decide +kernel
theorem dX7_take_134 : decode cX7_take 134 = .ok (.putfield 21, 3) := by decide +kernel
theorem dX7_take_137 : decode cX7_take 137 = .ok (.iinc 5 1, 3) := by decide +kernel
theorem dX7_take_140 : decode cX7_take 140 = .ok (.goto (-40), 3) := by decide +kernel
theorem dX7_take_143 : decode cX7_take 143 = .ok (.iconst 1, 1) := by decide +kernel
theorem dX7_take_144 : decode cX7_take 144 = .ok (.ireturn, 1) := by decide +kernel
theorem dX7_canBe_0 : decode cX7_canBe 0 = .ok (.aload_n 0, 1) := by decide +kernel
theorem dX7_canBe_1 : decode cX7_canBe 1 = .ok (.getfield 9, 3) := by decide +kernel
theorem dX7_canBe_4 : decode cX7_canBe 4 = .ok (.iload_n 3, 1) := by decide +kernel
theorem dX7_canBe_5 : decode cX7_canBe 5 = .ok (.iconst 0, 1) := by decide +kernel
theorem dX7_canBe_6 : decode cX7_canBe 6 = .ok (.iastore, 1) := by decide +kernel
theorem dX7_canBe_7 : decode cX7_canBe 7 = .ok (.iconst 1, 1) := by decide +kernel
theorem dX7_canBe_8 : decode cX7_canBe 8 = .ok (.istore 4, 2) := by decide +kernel
theorem dX7_canBe_10 : decode cX7_canBe 10 = .ok (.iload 4, 2) := by decide +kernel
theorem dX7_canBe_12 : decode cX7_canBe 12 = .ok (.aload_n 1, 1) := by decide +kernel
theorem dX7_canBe_13 : decode cX7_canBe 13 = .ok (.invokevirtual 37, 3) := by decide +kernel
theorem dX7_canBe_16 : decode cX7_canBe 16 = .ok (.if_icmp .gt 65, 3) := by decide +kernel
theorem dX7_canBe_19 : decode cX7_canBe 19 = .ok (.aload_n 0, 1) := by decide +kernel
theorem dX7_canBe_20 : decode cX7_canBe 20 = .ok (.aload_n 1, 1) := by decide +kernel
theorem dX7_canBe_21 : decode cX7_canBe 21 = .ok (.iload_n 3, 1) := by decide +kernel
theorem dX7_canBe_22 : decode cX7_canBe 22 = .ok (.iload 4, 2) := by decide +kernel
theorem dX7_canBe_24 : decode cX7_canBe 24 = .ok (.invokevirtual 44, 3) := by decide +kernel
theorem dX7_canBe_27 : decode cX7_canBe 27 = .ok (.iconst 0, 1) := by decide +kernel
theorem dX7_canBe_28 : decode cX7_canBe 28 = .ok (.istore 5, 2) := by decide +kernel
theorem dX7_canBe_30 : decode cX7_canBe 30 = .ok (.iload 5, 2) := by decide +kernel
theorem dX7_canBe_32 : decode cX7_canBe 32 = .ok (.aload_n 2, 1) := by decide +kernel
theorem dX7_canBe_33 : decode cX7_canBe 33 = .ok (.getfield 28, 3) := by decide +kernel
theorem dX7_canBe_36 : decode cX7_canBe 36 = .ok (.if_icmp .ge 39, 3) := by decide +kernel
theorem dX7_canBe_39 : decode cX7_canBe 39 = .ok (.aload_n 2, 1) := by decide +kernel
theorem dX7_canBe_40 : decode cX7_canBe 40 = .ok (.iload 5, 2) := by decide +kernel
theorem dX7_canBe_42 : decode cX7_canBe 42 = .ok (.invokevirtual 33, 3) := by decide +kernel
theorem dX7_canBe_45 : decode cX7_canBe 45 = .ok (.iload 4, 2) := by decide +kernel
theorem dX7_canBe_47 : decode cX7_canBe 47 = .ok (.if_icmp .ne 22, 3) := by decide +kernel
theorem dX7_canBe_50 : decode cX7_canBe 50 = .ok (.aload_n 2, 1) := by decide +kernel
theorem dX7_canBe_51 : decode cX7_canBe 51 = .ok (.iload 5, 2) := by decide +kernel
theorem dX7_canBe_53 : decode cX7_canBe 53 = .ok (.iconst 1, 1) := by decide +kernel
theorem dX7_canBe_54 : decode cX7_canBe 54 = .ok (.iadd, 1) := by decide +kernel
theorem dX7_canBe_55 : decode cX7_canBe 55 = .ok (.invokevirtual 48, 3) := by decide +kernel
theorem dX7_canBe_58 : decode cX7_canBe 58 = .ok (.aload_n 0, 1) := by decide +kernel
theorem dX7_canBe_59 : decode cX7_canBe 59 = .ok (.getfield 9, 3) := by decide +kernel
theorem dX7_canBe_62 : decode cX7_canBe 62 = .ok (.iload_n 3, 1) := by decide +kernel
theorem dX7_canBe_63 : decode cX7_canBe 63 = .ok (.iaload, 1) := by decide +kernel
theorem dX7_canBe_64 : decode cX7_canBe 64 = .ok (.if_icmp .eq 5, 3) := by decide +kernel
theorem dX7_canBe_67 : decode cX7_canBe 67 = .ok (.iconst 0, 1) := by decide +kernel
theorem dX7_canBe_68 : decode cX7_canBe 68 = .ok (.ireturn, 1) := by decide +kernel
theorem dX7_canBe_69 : decode cX7_canBe 69 = .ok (.iinc 5 3, 3) := by decide +kernel
theorem dX7_canBe_72 : decode cX7_canBe 72 = .ok (.goto (-42), 3) := by decide +kernel
theorem dX7_canBe_75 : decode cX7_canBe 75 = .ok (.iinc 4 1, 3) := by decide +kernel
theorem dX7_canBe_78 : decode cX7_canBe 78 = .ok (.goto (-68), 3) := by decide +kernel
theorem dX7_canBe_81 : decode cX7_canBe 81 = .ok (.iconst 1, 1) := by decide +kernel
theorem dX7_canBe_82 : decode cX7_canBe 82 = .ok (.ireturn, 1) := by decide +kernel
theorem dX7_raise_0 : decode cX7_raise 0 = .ok (.aload_n 1, 1) := by decide +kernel
theorem dX7_raise_1 : decode cX7_raise 1 = .ok (.getfield 51, 3) := by decide +kernel
theorem dX7_raise_4 : decode cX7_raise 4 = .ok (.iload_n 3, 1) := by decide +kernel
theorem dX7_raise_5 : decode cX7_raise 5 = .ok (.iadd, 1) := by decide +kernel
theorem dX7_raise_6 : decode cX7_raise 6 = .ok (.iconst 1, 1) := by decide +kernel
theorem dX7_raise_7 : decode cX7_raise 7 = .ok (.isub, 1) := by decide +kernel
theorem dX7_raise_8 : decode cX7_raise 8 = .ok (.istore 4, 2) := by decide +kernel
theorem dX7_raise_10 : decode cX7_raise 10 = .ok (.aload_n 0, 1) := by decide +kernel
theorem dX7_raise_11 : decode cX7_raise 11 = .ok (.getfield 9, 3) := by decide +kernel
theorem dX7_raise_14 : decode cX7_raise 14 = .ok (.iload_n 2, 1) := by decide +kernel
theorem dX7_raise_15 : decode cX7_raise 15 = .ok (.aload_n 1, 1) := by decide +kernel
theorem dX7_raise_16 : decode cX7_raise 16 = .ok (.iload_n 2, 1) := by decide +kernel
theorem dX7_raise_17 : decode cX7_raise 17 = .ok (.iload 4, 2) := by decide +kernel
theorem dX7_raise_19 : decode cX7_raise 19 = .ok (.aload_n 0, 1) := by decide +kernel
theorem dX7_raise_20 : decode cX7_raise 20 = .ok (.getfield 9, 3) := by decide +kernel
theorem dX7_raise_23 : decode cX7_raise 23 = .ok (.iload_n 2, 1) := by decide +kernel
theorem dX7_raise_24 : decode cX7_raise 24 = .ok (.iaload, 1) := by decide +kernel
theorem dX7_raise_25 : decode cX7_raise 25 = .ok (.aload_n 0, 1) := by decide +kernel
theorem dX7_raise_26 : decode cX7_raise 26 = .ok (.getfield 25, 3) := by decide +kernel
theorem dX7_raise_29 : decode cX7_raise 29 = .ok (.iload 4, 2) := by decide +kernel
theorem dX7_raise_31 : decode cX7_raise 31 = .ok (.iadd, 1) := by decide +kernel
theorem dX7_raise_32 : decode cX7_raise 32 = .ok (.invokevirtual 54, 3) := by decide +kernel
theorem dX7_raise_35 : decode cX7_raise 35 = .ok (.iastore, 1) := by decide +kernel
theorem dX7_raise_36 : decode cX7_raise 36 = .ok (.return_, 1) := by decide +kernel
theorem dX7_telling_0 : decode cX7_telling 0 = .ok (.aload_n 0, 1) := by decide +kernel
theorem dX7_telling_1 : decode cX7_telling 1 = .ok (.getfield 21, 3) := by decide +kernel
theorem dX7_telling_4 : decode cX7_telling 4 = .ok (.ifCond .ne 5, 3) := by decide +kernel
theorem dX7_telling_7 : decode cX7_telling 7 = .ok (.iconst (-1), 1) := by decide +kernel
theorem dX7_telling_8 : decode cX7_telling 8 = .ok (.ireturn, 1) := by decide +kernel
theorem dX7_telling_9 : decode cX7_telling 9 = .ok (.aload_n 0, 1) := by decide +kernel
theorem dX7_telling_10 : decode cX7_telling 10 = .ok (.getfield 9, 3) := by decide +kernel
theorem dX7_telling_13 : decode cX7_telling 13 = .ok (.iconst 0, 1) := by decide +kernel
theorem dX7_telling_14 : decode cX7_telling 14 = .ok (.invokestatic 58, 3) := by decide +kernel
theorem dX7_telling_17 : decode cX7_telling 17 = .ok (.iconst (-1), 1) := by decide +kernel
theorem dX7_telling_18 : decode cX7_telling 18 = .ok (.istore_n 2, 1) := by decide +kernel
theorem dX7_telling_19 : decode cX7_telling 19 = .ok (.bipush 7, 2) := by decide +kernel
theorem dX7_telling_21 : decode cX7_telling 21 = .ok (.istore_n 3, 1) := by decide +kernel
theorem dX7_telling_22 : decode cX7_telling 22 = .ok (.iconst 1, 1) := by decide +kernel
theorem dX7_telling_23 : decode cX7_telling 23 = .ok (.istore 4, 2) := by decide +kernel
theorem dX7_telling_25 : decode cX7_telling 25 = .ok (.iload 4, 2) := by decide +kernel
theorem dX7_telling_27 : decode cX7_telling 27 = .ok (.aload_n 1, 1) := by decide +kernel
theorem dX7_telling_28 : decode cX7_telling 28 = .ok (.invokevirtual 37, 3) := by decide +kernel
theorem dX7_telling_31 : decode cX7_telling 31 = .ok (.if_icmp .gt 54, 3) := by decide +kernel
theorem dX7_telling_34 : decode cX7_telling 34 = .ok (.iconst 0, 1) := by decide +kernel
theorem dX7_telling_35 : decode cX7_telling 35 = .ok (.istore 5, 2) := by decide +kernel
theorem dX7_telling_37 : decode cX7_telling 37 = .ok (.iload 5, 2) := by decide +kernel
theorem dX7_telling_39 : decode cX7_telling 39 = .ok (.aload_n 1, 1) := by decide +kernel
theorem dX7_telling_40 : decode cX7_telling 40 = .ok (.invokevirtual 15, 3) := by decide +kernel
theorem dX7_telling_43 : decode cX7_telling 43 = .ok (.if_icmp .ge 18, 3) := by decide +kernel
theorem dX7_telling_46 : decode cX7_telling 46 = .ok (.aload_n 0, 1) := by decide +kernel
theorem dX7_telling_47 : decode cX7_telling 47 = .ok (.aload_n 1, 1) := by decide +kernel
theorem dX7_telling_48 : decode cX7_telling 48 = .ok (.iload 5, 2) := by decide +kernel
theorem dX7_telling_50 : decode cX7_telling 50 = .ok (.iload 4, 2) := by decide +kernel
theorem dX7_telling_52 : decode cX7_telling 52 = .ok (.invokevirtual 44, 3) := by decide +kernel
theorem dX7_telling_55 : decode cX7_telling 55 = .ok (.iinc 5 1, 3) := by decide +kernel
theorem dX7_telling_58 : decode cX7_telling 58 = .ok (.goto (-21), 3) := by decide +kernel
theorem dX7_telling_61 : decode cX7_telling 61 = .ok (.aload_n 0, 1) := by decide +kernel
theorem dX7_telling_62 : decode cX7_telling 62 = .ok (.invokevirtual 64, 3) := by decide +kernel
theorem dX7_telling_65 : decode cX7_telling 65 = .ok (.istore 5, 2) := by decide +kernel
theorem dX7_telling_67 : decode cX7_telling 67 = .ok (.iload 5, 2) := by decide +kernel
theorem dX7_telling_69 : decode cX7_telling 69 = .ok (.iload_n 3, 1) := by decide +kernel
theorem dX7_telling_70 : decode cX7_telling 70 = .ok (.if_icmp .ge 9, 3) := by decide +kernel
theorem dX7_telling_73 : decode cX7_telling 73 = .ok (.iload 5, 2) := by decide +kernel
theorem dX7_telling_75 : decode cX7_telling 75 = .ok (.istore_n 3, 1) := by decide +kernel
theorem dX7_telling_76 : decode cX7_telling 76 = .ok (.iload 4, 2) := by decide +kernel
theorem dX7_telling_78 : decode cX7_telling 78 = .ok (.istore_n 2, 1) := by decide +kernel
theorem dX7_telling_79 : decode cX7_telling 79 = .ok (.iinc 4 1, 3) := by decide +kernel
theorem dX7_telling_82 : decode cX7_telling 82 = .ok (.goto (-57), 3) := by decide +kernel
theorem dX7_telling_85 : decode cX7_telling 85 = .ok (.iload_n 2, 1) := by decide +kernel
theorem dX7_telling_86 : decode cX7_telling 86 = .ok (.ireturn, 1) := by decide +kernel
theorem dX7_mostAlike_0 : decode cX7_mostAlike 0 = .ok (.iconst 0, 1) := by decide +kernel
theorem dX7_mostAlike_1 : decode cX7_mostAlike 1 = .ok (.istore_n 1, 1) := by decide +kernel
theorem dX7_mostAlike_2 : decode cX7_mostAlike 2 = .ok (.iconst 0, 1) := by decide +kernel
theorem dX7_mostAlike_3 : decode cX7_mostAlike 3 = .ok (.istore_n 2, 1) := by decide +kernel
theorem dX7_mostAlike_4 : decode cX7_mostAlike 4 = .ok (.iload_n 2, 1) := by decide +kernel
theorem dX7_mostAlike_5 : decode cX7_mostAlike 5 = .ok (.bipush 6, 2) := by decide +kernel
theorem dX7_mostAlike_7 : decode cX7_mostAlike 7 = .ok (.if_icmp .ge 92, 3) := by decide +kernel
theorem dX7_mostAlike_10 : decode cX7_mostAlike 10 = .ok (.iconst 0, 1) := by decide +kernel
theorem dX7_mostAlike_11 : decode cX7_mostAlike 11 = .ok (.istore_n 3, 1) := by decide +kernel
theorem dX7_mostAlike_12 : decode cX7_mostAlike 12 = .ok (.iconst 0, 1) := by decide +kernel
theorem dX7_mostAlike_13 : decode cX7_mostAlike 13 = .ok (.istore 4, 2) := by decide +kernel
theorem dX7_mostAlike_15 : decode cX7_mostAlike 15 = .ok (.iload 4, 2) := by decide +kernel
theorem dX7_mostAlike_17 : decode cX7_mostAlike 17 = .ok (.bipush 6, 2) := by decide +kernel
theorem dX7_mostAlike_19 : decode cX7_mostAlike 19 = .ok (.if_icmp .ge 68, 3) := by decide +kernel
theorem dX7_mostAlike_22 : decode cX7_mostAlike 22 = .ok (.aload_n 0, 1) := by decide +kernel
theorem dX7_mostAlike_23 : decode cX7_mostAlike 23 = .ok (.getfield 21, 3) := by decide +kernel
theorem dX7_mostAlike_26 : decode cX7_mostAlike 26 = .ok (.iconst 1, 1) := by decide +kernel
theorem dX7_mostAlike_27 : decode cX7_mostAlike 27 = .ok (.iload_n 2, 1) := by decide +kernel
theorem dX7_mostAlike_28 : decode cX7_mostAlike 28 = .ok (.ishl, 1) := by decide +kernel
theorem dX7_mostAlike_29 : decode cX7_mostAlike 29 = .ok (.iand, 1) := by decide +kernel
theorem dX7_mostAlike_30 : decode cX7_mostAlike 30 = .ok (.ifCond .eq 19, 3) := by decide +kernel
theorem dX7_mostAlike_33 : decode cX7_mostAlike 33 = .ok (.aload_n 0, 1) := by decide +kernel
theorem dX7_mostAlike_34 : decode cX7_mostAlike 34 = .ok (.getfield 21, 3) := by decide +kernel
theorem dX7_mostAlike_37 : decode cX7_mostAlike 37 = .ok (.iconst 1, 1) := by decide +kernel
theorem dX7_mostAlike_38 : decode cX7_mostAlike 38 = .ok (.iload 4, 2) := by decide +kernel
theorem dX7_mostAlike_40 : decode cX7_mostAlike 40 = .ok (.ishl, 1) := by decide +kernel
theorem dX7_mostAlike_41 : decode cX7_mostAlike 41 = .ok (.iand, 1) := by decide +kernel
theorem dX7_mostAlike_42 : decode cX7_mostAlike 42 = .ok (.ifCond .eq 7, 3) := by decide +kernel
theorem dX7_mostAlike_45 : decode cX7_mostAlike 45 = .ok (.iconst 1, 1) := by decide +kernel
theorem dX7_mostAlike_46 : decode cX7_mostAlike 46 = .ok (.goto 4, 3) := by decide +kernel
theorem dX7_mostAlike_49 : decode cX7_mostAlike 49 = .ok (.iconst 0, 1) := by decide +kernel
theorem dX7_mostAlike_50 : decode cX7_mostAlike 50 = .ok (.istore 5, 2) := by decide +kernel
theorem dX7_mostAlike_52 : decode cX7_mostAlike 52 = .ok (.iload_n 3, 1) := by decide +kernel
theorem dX7_mostAlike_53 : decode cX7_mostAlike 53 = .ok (.iload 5, 2) := by decide +kernel
theorem dX7_mostAlike_55 : decode cX7_mostAlike 55 = .ok (.ifCond .eq 23, 3) := by decide +kernel
theorem dX7_mostAlike_58 : decode cX7_mostAlike 58 = .ok (.aload_n 0, 1) := by decide +kernel
theorem dX7_mostAlike_59 : decode cX7_mostAlike 59 = .ok (.getfield 9, 3) := by decide +kernel
theorem dX7_mostAlike_62 : decode cX7_mostAlike 62 = .ok (.iload_n 2, 1) := by decide +kernel
theorem dX7_mostAlike_63 : decode cX7_mostAlike 63 = .ok (.iaload, 1) := by decide +kernel
theorem dX7_mostAlike_64 : decode cX7_mostAlike 64 = .ok (.aload_n 0, 1) := by decide +kernel
theorem dX7_mostAlike_65 : decode cX7_mostAlike 65 = .ok (.getfield 9, 3) := by decide +kernel
theorem dX7_mostAlike_68 : decode cX7_mostAlike 68 = .ok (.iload 4, 2) := by decide +kernel
theorem dX7_mostAlike_70 : decode cX7_mostAlike 70 = .ok (.iaload, 1) := by decide +kernel
theorem dX7_mostAlike_71 : decode cX7_mostAlike 71 = .ok (.if_icmp .ne 7, 3) := by decide +kernel
theorem dX7_mostAlike_74 : decode cX7_mostAlike 74 = .ok (.iconst 1, 1) := by decide +kernel
theorem dX7_mostAlike_75 : decode cX7_mostAlike 75 = .ok (.goto 4, 3) := by decide +kernel
theorem dX7_mostAlike_78 : decode cX7_mostAlike 78 = .ok (.iconst 0, 1) := by decide +kernel
theorem dX7_mostAlike_79 : decode cX7_mostAlike 79 = .ok (.iadd, 1) := by decide +kernel
theorem dX7_mostAlike_80 : decode cX7_mostAlike 80 = .ok (.istore_n 3, 1) := by decide +kernel
theorem dX7_mostAlike_81 : decode cX7_mostAlike 81 = .ok (.iinc 4 1, 3) := by decide +kernel
theorem dX7_mostAlike_84 : decode cX7_mostAlike 84 = .ok (.goto (-69), 3) := by decide +kernel
theorem dX7_mostAlike_87 : decode cX7_mostAlike 87 = .ok (.iload_n 1, 1) := by decide +kernel
theorem dX7_mostAlike_88 : decode cX7_mostAlike 88 = .ok (.iload_n 3, 1) := by decide +kernel
theorem dX7_mostAlike_89 : decode cX7_mostAlike 89 = .ok (.invokestatic 67, 3) := by decide +kernel
theorem dX7_mostAlike_92 : decode cX7_mostAlike 92 = .ok (.istore_n 1, 1) := by decide +kernel
theorem dX7_mostAlike_93 : decode cX7_mostAlike 93 = .ok (.iinc 2 1, 3) := by decide +kernel
theorem dX7_mostAlike_96 : decode cX7_mostAlike 96 = .ok (.goto (-92), 3) := by decide +kernel
theorem dX7_mostAlike_99 : decode cX7_mostAlike 99 = .ok (.iload_n 1, 1) := by decide +kernel
theorem dX7_mostAlike_100 : decode cX7_mostAlike 100 = .ok (.ireturn, 1) := by decide +kernel
theorem dX8_add_0 : decode cX8_add 0 = .ok (.bipush 24, 2) := by decide +kernel
theorem dX8_add_2 : decode cX8_add 2 = .ok (.istore_n 2, 1) := by decide +kernel
theorem dX8_add_3 : decode cX8_add 3 = .ok (.iload_n 2, 1) := by decide +kernel
theorem dX8_add_4 : decode cX8_add 4 = .ok (.ifCond .lt 42, 3) := by decide +kernel
theorem dX8_add_7 : decode cX8_add 7 = .ok (.aload_n 0, 1) := by decide +kernel
theorem dX8_add_8 : decode cX8_add 8 = .ok (.getfield 15, 3) := by decide +kernel
theorem dX8_add_11 : decode cX8_add 11 = .ok (.sipush 1600, 3) := by decide +kernel
theorem dX8_add_14 : decode cX8_add 14 = .ok (.if_icmp .ge 32, 3) := by decide +kernel
theorem dX8_add_17 : decode cX8_add 17 = .ok (.aload_n 0, 1) := by decide +kernel
theorem dX8_add_18 : decode cX8_add 18 = .ok (.getfield 9, 3) := by decide +kernel
theorem dX8_add_21 : decode cX8_add 21 = .ok (.aload_n 0, 1) := by decide +kernel
theorem dX8_add_22 : decode cX8_add 22 = .ok (.getfield 15, 3) := by decide +kernel
theorem dX8_add_25 : decode cX8_add 25 = .ok (.iload_n 1, 1) := by decide +kernel
theorem dX8_add_26 : decode cX8_add 26 = .ok (.iload_n 2, 1) := by decide +kernel
theorem dX8_add_27 : decode cX8_add 27 = .ok (.ishr, 1) := by decide +kernel
theorem dX8_add_28 : decode cX8_add 28 = .ok (.i2b, 1) := by decide +kernel
theorem dX8_add_29 : decode cX8_add 29 = .ok (.bastore, 1) := by decide +kernel
theorem dX8_add_30 : decode cX8_add 30 = .ok (.aload_n 0, 1) := by decide +kernel
theorem dX8_add_31 : decode cX8_add 31 = .ok (.dup, 1) := by decide +kernel
theorem dX8_add_32 : decode cX8_add 32 = .ok (.getfield 15, 3) := by decide +kernel
theorem dX8_add_35 : decode cX8_add 35 = .ok (.iconst 1, 1) := by decide +kernel
theorem dX8_add_36 : decode cX8_add 36 = .ok (.iadd, 1) := by decide +kernel
theorem dX8_add_37 : decode cX8_add 37 = .ok (.putfield 15, 3) := by decide +kernel
theorem dX8_add_40 : decode cX8_add 40 = .ok (.iinc 2 (-8), 3) := by decide +kernel
theorem dX8_add_43 : decode cX8_add 43 = .ok (.goto (-40), 3) := by decide +kernel
theorem dX8_add_46 : decode cX8_add 46 = .ok (.return_, 1) := by decide +kernel
theorem dX8_byteAt_0 : decode cX8_byteAt 0 = .ok (.iload_n 1, 1) := by decide +kernel
theorem dX8_byteAt_1 : decode cX8_byteAt 1 = .ok (.ifCond .lt 24, 3) := by decide +kernel
theorem dX8_byteAt_4 : decode cX8_byteAt 4 = .ok (.iload_n 1, 1) := by decide +kernel
theorem dX8_byteAt_5 : decode cX8_byteAt 5 = .ok (.aload_n 0, 1) := by decide +kernel
theorem dX8_byteAt_6 : decode cX8_byteAt 6 = .ok (.getfield 15, 3) := by decide +kernel
theorem dX8_byteAt_9 : decode cX8_byteAt 9 = .ok (.if_icmp .ge 16, 3) := by decide +kernel
theorem dX8_byteAt_12 : decode cX8_byteAt 12 = .ok (.aload_n 0, 1) := by decide +kernel
theorem dX8_byteAt_13 : decode cX8_byteAt 13 = .ok (.getfield 9, 3) := by decide +kernel
theorem dX8_byteAt_16 : decode cX8_byteAt 16 = .ok (.iload_n 1, 1) := by decide +kernel
theorem dX8_byteAt_17 : decode cX8_byteAt 17 = .ok (.baload, 1) := by decide +kernel
theorem dX8_byteAt_18 : decode cX8_byteAt 18 = .ok (.sipush 255, 3) := by decide +kernel
theorem dX8_byteAt_21 : decode cX8_byteAt 21 = .ok (.iand, 1) := by decide +kernel
theorem dX8_byteAt_22 : decode cX8_byteAt 22 = .ok (.goto 4, 3) := by decide +kernel
theorem dX8_byteAt_25 : decode cX8_byteAt 25 = .ok (.iconst (-1), 1) := by decide +kernel
theorem dX8_byteAt_26 : decode cX8_byteAt 26 = .ok (.ireturn, 1) := by decide +kernel
theorem dX8_pairAt_0 : decode cX8_pairAt 0 = .ok (.iload_n 1, 1) := by decide +kernel
theorem dX8_pairAt_1 : decode cX8_pairAt 1 = .ok (.ifCond .lt 43, 3) := by decide +kernel
theorem dX8_pairAt_4 : decode cX8_pairAt 4 = .ok (.iload_n 1, 1) := by decide +kernel
theorem dX8_pairAt_5 : decode cX8_pairAt 5 = .ok (.iconst 1, 1) := by decide +kernel
theorem dX8_pairAt_6 : decode cX8_pairAt 6 = .ok (.iadd, 1) := by decide +kernel
theorem dX8_pairAt_7 : decode cX8_pairAt 7 = .ok (.aload_n 0, 1) := by decide +kernel
theorem dX8_pairAt_8 : decode cX8_pairAt 8 = .ok (.getfield 15, 3) := by decide +kernel
theorem dX8_pairAt_11 : decode cX8_pairAt 11 = .ok (.if_icmp .ge 33, 3) := by decide +kernel
theorem dX8_pairAt_14 : decode cX8_pairAt 14 = .ok (.aload_n 0, 1) := by decide +kernel
theorem dX8_pairAt_15 : decode cX8_pairAt 15 = .ok (.getfield 9, 3) := by decide +kernel
theorem dX8_pairAt_18 : decode cX8_pairAt 18 = .ok (.iload_n 1, 1) := by decide +kernel
theorem dX8_pairAt_19 : decode cX8_pairAt 19 = .ok (.baload, 1) := by decide +kernel
theorem dX8_pairAt_20 : decode cX8_pairAt 20 = .ok (.sipush 255, 3) := by decide +kernel
theorem dX8_pairAt_23 : decode cX8_pairAt 23 = .ok (.iand, 1) := by decide +kernel
theorem dX8_pairAt_24 : decode cX8_pairAt 24 = .ok (.sipush 256, 3) := by decide +kernel
theorem dX8_pairAt_27 : decode cX8_pairAt 27 = .ok (.imul, 1) := by decide +kernel
theorem dX8_pairAt_28 : decode cX8_pairAt 28 = .ok (.aload_n 0, 1) := by decide +kernel
theorem dX8_pairAt_29 : decode cX8_pairAt 29 = .ok (.getfield 9, 3) := by decide +kernel
theorem dX8_pairAt_32 : decode cX8_pairAt 32 = .ok (.iload_n 1, 1) := by decide +kernel
theorem dX8_pairAt_33 : decode cX8_pairAt 33 = .ok (.iconst 1, 1) := by decide +kernel
theorem dX8_pairAt_34 : decode cX8_pairAt 34 = .ok (.iadd, 1) := by decide +kernel
theorem dX8_pairAt_35 : decode cX8_pairAt 35 = .ok (.baload, 1) := by decide +kernel
theorem dX8_pairAt_36 : decode cX8_pairAt 36 = .ok (.sipush 255, 3) := by decide +kernel
theorem dX8_pairAt_39 : decode cX8_pairAt 39 = .ok (.iand, 1) := by decide +kernel
theorem dX8_pairAt_40 : decode cX8_pairAt 40 = .ok (.iadd, 1) := by decide +kernel
theorem dX8_pairAt_41 : decode cX8_pairAt 41 = .ok (.goto 4, 3) := by decide +kernel
theorem dX8_pairAt_44 : decode cX8_pairAt 44 = .ok (.iconst (-1), 1) := by decide +kernel
theorem dX8_pairAt_45 : decode cX8_pairAt 45 = .ok (.ireturn, 1) := by decide +kernel
theorem dX9_clear_0 : decode cX9_clear 0 = .ok (.aload_n 0, 1) := by decide +kernel
theorem dX9_clear_1 : decode cX9_clear 1 = .ok (.getfield 9, 3) := by decide +kernel
theorem dX9_clear_4 : decode cX9_clear 4 = .ok (.iconst 0, 1) := by decide +kernel
theorem dX9_clear_5 : decode cX9_clear 5 = .ok (.invokestatic 60, 3) := by decide +kernel
theorem dX9_clear_8 : decode cX9_clear 8 = .ok (.aload_n 0, 1) := by decide +kernel
theorem dX9_clear_9 : decode cX9_clear 9 = .ok (.getfield 32, 3) := by decide +kernel
theorem dX9_clear_12 : decode cX9_clear 12 = .ok (.iconst (-1), 1) := by decide +kernel
theorem dX9_clear_13 : decode cX9_clear 13 = .ok (.invokestatic 60, 3) := by decide +kernel
theorem dX9_clear_16 : decode cX9_clear 16 = .ok (.aload_n 0, 1) := by decide +kernel
theorem dX9_clear_17 : decode cX9_clear 17 = .ok (.getfield 47, 3) := by decide +kernel
theorem dX9_clear_20 : decode cX9_clear 20 = .ok (.iconst 0, 1) := by decide +kernel
theorem dX9_clear_21 : decode cX9_clear 21 = .ok (.putfield 66, 3) := by decide +kernel
theorem dX9_clear_24 : decode cX9_clear 24 = .ok (.aload_n 0, 1) := by decide +kernel
theorem dX9_clear_25 : decode cX9_clear 25 = .ok (.getfield 51, 3) := by decide +kernel
theorem dX9_clear_28 : decode cX9_clear 28 = .ok (.iconst 0, 1) := by decide +kernel
theorem dX9_clear_29 : decode cX9_clear 29 = .ok (.putfield 66, 3) := by decide +kernel
theorem dX9_clear_32 : decode cX9_clear 32 = .ok (.aload_n 0, 1) := by decide +kernel
theorem dX9_clear_33 : decode cX9_clear 33 = .ok (.iconst 0, 1) := by decide +kernel
theorem dX9_clear_34 : decode cX9_clear 34 = .ok (.putfield 70, 3) := by decide +kernel
theorem dX9_clear_37 : decode cX9_clear 37 = .ok (.aload_n 0, 1) := by decide +kernel
theorem dX9_clear_38 : decode cX9_clear 38 = .ok (.bipush 7, 2) := by decide +kernel
theorem dX9_clear_40 : decode cX9_clear 40 = .ok (.putfield 73, 3) := by decide +kernel
theorem dX9_clear_43 : decode cX9_clear 43 = .ok (.aload_n 0, 1) := by decide +kernel
theorem dX9_clear_44 : decode cX9_clear 44 = .ok (.bipush 21, 2) := by decide +kernel
theorem dX9_clear_46 : decode cX9_clear 46 = .ok (.putfield 76, 3) := by decide +kernel
theorem dX9_clear_49 : decode cX9_clear 49 = .ok (.aload_n 0, 1) := by decide +kernel
theorem dX9_clear_50 : decode cX9_clear 50 = .ok (.bipush 10, 2) := by decide +kernel
theorem dX9_clear_52 : decode cX9_clear 52 = .ok (.putfield 79, 3) := by decide +kernel
theorem dX9_clear_55 : decode cX9_clear 55 = .ok (.aload_n 0, 1) := by decide +kernel
theorem dX9_clear_56 : decode cX9_clear 56 = .ok (.iconst 0, 1) := by decide +kernel
theorem dX9_clear_57 : decode cX9_clear 57 = .ok (.putfield 82, 3) := by decide +kernel
theorem dX9_clear_60 : decode cX9_clear 60 = .ok (.aload_n 0, 1) := by decide +kernel
theorem dX9_clear_61 : decode cX9_clear 61 = .ok (.iconst 5, 1) := by decide +kernel
theorem dX9_clear_62 : decode cX9_clear 62 = .ok (.putfield 85, 3) := by decide +kernel
theorem dX9_clear_65 : decode cX9_clear 65 = .ok (.return_, 1) := by decide +kernel
theorem dX9_homeCount_0 : decode cX9_homeCount 0 = .ok (.aload_n 0, 1) := by decide +kernel
theorem dX9_homeCount_1 : decode cX9_homeCount 1 = .ok (.getfield 9, 3) := by decide +kernel
theorem dX9_homeCount_4 : decode cX9_homeCount 4 = .ok (.iconst 0, 1) := by decide +kernel
theorem dX9_homeCount_5 : decode cX9_homeCount 5 = .ok (.iaload, 1) := by decide +kernel
theorem dX9_homeCount_6 : decode cX9_homeCount 6 = .ok (.ireturn, 1) := by decide +kernel
theorem dX9_childCount_0 : decode cX9_childCount 0 = .ok (.aload_n 0, 1) := by decide +kernel
theorem dX9_childCount_1 : decode cX9_childCount 1 = .ok (.getfield 9, 3) := by decide +kernel
theorem dX9_childCount_4 : decode cX9_childCount 4 = .ok (.iconst 1, 1) := by decide +kernel
theorem dX9_childCount_5 : decode cX9_childCount 5 = .ok (.iaload, 1) := by decide +kernel
theorem dX9_childCount_6 : decode cX9_childCount 6 = .ok (.ireturn, 1) := by decide +kernel
theorem dX9_wallCount_0 : decode cX9_wallCount 0 = .ok (.aload_n 0, 1) := by decide +kernel
theorem dX9_wallCount_1 : decode cX9_wallCount 1 = .ok (.getfield 9, 3) := by decide +kernel
theorem dX9_wallCount_4 : decode cX9_wallCount 4 = .ok (.iconst 2, 1) := by decide +kernel
theorem dX9_wallCount_5 : decode cX9_wallCount 5 = .ok (.iaload, 1) := by decide +kernel
theorem dX9_wallCount_6 : decode cX9_wallCount 6 = .ok (.ireturn, 1) := by decide +kernel
theorem dX9_span_0 : decode cX9_span 0 = .ok (.aload_n 0, 1) := by decide +kernel
theorem dX9_span_1 : decode cX9_span 1 = .ok (.getfield 76, 3) := by decide +kernel
theorem dX9_span_4 : decode cX9_span 4 = .ok (.aload_n 0, 1) := by decide +kernel
theorem dX9_span_5 : decode cX9_span 5 = .ok (.getfield 73, 3) := by decide +kernel
theorem dX9_span_8 : decode cX9_span 8 = .ok (.isub, 1) := by decide +kernel
theorem dX9_span_9 : decode cX9_span 9 = .ok (.ireturn, 1) := by decide +kernel
theorem dX9_addName_0 : decode cX9_addName 0 = .ok (.aload_n 0, 1) := by decide +kernel
theorem dX9_addName_1 : decode cX9_addName 1 = .ok (.getfield 9, 3) := by decide +kernel
theorem dX9_addName_4 : decode cX9_addName 4 = .ok (.iload_n 1, 1) := by decide +kernel
theorem dX9_addName_5 : decode cX9_addName 5 = .ok (.iaload, 1) := by decide +kernel
theorem dX9_addName_6 : decode cX9_addName 6 = .ok (.bipush 8, 2) := by decide +kernel
theorem dX9_addName_8 : decode cX9_addName 8 = .ok (.if_icmp .ge 27, 3) := by decide +kernel
theorem dX9_addName_11 : decode cX9_addName 11 = .ok (.aload_n 0, 1) := by decide +kernel
theorem dX9_addName_12 : decode cX9_addName 12 = .ok (.getfield 17, 3) := by decide +kernel
theorem dX9_addName_15 : decode cX9_addName 15 = .ok (.iload_n 1, 1) := by decide +kernel
theorem dX9_addName_16 : decode cX9_addName 16 = .ok (.aaload, 1) := by decide +kernel
theorem dX9_addName_17 : decode cX9_addName 17 = .ok (.aload_n 0, 1) := by decide +kernel
theorem dX9_addName_18 : decode cX9_addName 18 = .ok (.getfield 9, 3) := by decide +kernel
theorem dX9_addName_21 : decode cX9_addName 21 = .ok (.iload_n 1, 1) := by decide +kernel
theorem dX9_addName_22 : decode cX9_addName 22 = .ok (.iaload, 1) := by decide +kernel
theorem dX9_addName_23 : decode cX9_addName 23 = .ok (.iload_n 2, 1) := by decide +kernel
theorem dX9_addName_24 : decode cX9_addName 24 = .ok (.iastore, 1) := by decide +kernel
theorem dX9_addName_25 : decode cX9_addName 25 = .ok (.aload_n 0, 1) := by decide +kernel
theorem dX9_addName_26 : decode cX9_addName 26 = .ok (.getfield 9, 3) := by decide +kernel
theorem dX9_addName_29 : decode cX9_addName 29 = .ok (.iload_n 1, 1) := by decide +kernel
theorem dX9_addName_30 : decode cX9_addName 30 = .ok (.dup2, 1) := by decide +kernel
theorem dX9_addName_31 : decode cX9_addName 31 = .ok (.iaload, 1) := by decide +kernel
theorem dX9_addName_32 : decode cX9_addName 32 = .ok (.iconst 1, 1) := by decide +kernel
theorem dX9_addName_33 : decode cX9_addName 33 = .ok (.iadd, 1) := by decide +kernel
theorem dX9_addName_34 : decode cX9_addName 34 = .ok (.iastore, 1) := by decide +kernel
theorem dX9_addName_35 : decode cX9_addName 35 = .ok (.return_, 1) := by decide +kernel
theorem dX9_find_0 : decode cX9_find 0 = .ok (.iconst 0, 1) := by decide +kernel
theorem dX9_find_1 : decode cX9_find 1 = .ok (.istore_n 3, 1) := by decide +kernel
theorem dX9_find_2 : decode cX9_find 2 = .ok (.iload_n 3, 1) := by decide +kernel
theorem dX9_find_3 : decode cX9_find 3 = .ok (.aload_n 0, 1) := by decide +kernel
theorem dX9_find_4 : decode cX9_find 4 = .ok (.getfield 9, 3) := by decide +kernel
theorem dX9_find_7 : decode cX9_find 7 = .ok (.iload_n 1, 1) := by decide +kernel
theorem dX9_find_8 : decode cX9_find 8 = .ok (.iaload, 1) := by decide +kernel
theorem dX9_find_9 : decode cX9_find 9 = .ok (.if_icmp .ge 23, 3) := by decide +kernel
theorem dX9_find_12 : decode cX9_find 12 = .ok (.aload_n 0, 1) := by decide +kernel
theorem dX9_find_13 : decode cX9_find 13 = .ok (.getfield 17, 3) := by decide +kernel
theorem dX9_find_16 : decode cX9_find 16 = .ok (.iload_n 1, 1) := by decide +kernel
theorem dX9_find_17 : decode cX9_find 17 = .ok (.aaload, 1) := by decide +kernel
theorem dX9_find_18 : decode cX9_find 18 = .ok (.iload_n 3, 1) := by decide +kernel
theorem dX9_find_19 : decode cX9_find 19 = .ok (.iaload, 1) := by decide +kernel
theorem dX9_find_20 : decode cX9_find 20 = .ok (.iload_n 2, 1) := by decide +kernel
theorem dX9_find_21 : decode cX9_find 21 = .ok (.if_icmp .ne 5, 3) := by decide +kernel
theorem dX9_find_24 : decode cX9_find 24 = .ok (.iload_n 3, 1) := by decide +kernel
theorem dX9_find_25 : decode cX9_find 25 = .ok (.ireturn, 1) := by decide +kernel
theorem dX9_find_26 : decode cX9_find 26 = .ok (.iinc 3 1, 3) := by decide +kernel
theorem dX9_find_29 : decode cX9_find 29 = .ok (.goto (-27), 3) := by decide +kernel
theorem dX9_find_32 : decode cX9_find 32 = .ok (.iconst (-1), 1) := by decide +kernel
theorem dX9_find_33 : decode cX9_find 33 = .ok (.ireturn, 1) := by decide +kernel
theorem dX9_knows_0 : decode cX9_knows 0 = .ok (.aload_n 0, 1) := by decide +kernel
theorem dX9_knows_1 : decode cX9_knows 1 = .ok (.iconst 0, 1) := by decide +kernel
theorem dX9_knows_2 : decode cX9_knows 2 = .ok (.iload_n 1, 1) := by decide +kernel
theorem dX9_knows_3 : decode cX9_knows 3 = .ok (.invokevirtual 88, 3) := by decide +kernel
theorem dX9_knows_6 : decode cX9_knows 6 = .ok (.iconst (-1), 1) := by decide +kernel
theorem dX9_knows_7 : decode cX9_knows 7 = .ok (.if_icmp .ne 23, 3) := by decide +kernel
theorem dX9_knows_10 : decode cX9_knows 10 = .ok (.aload_n 0, 1) := by decide +kernel
theorem dX9_knows_11 : decode cX9_knows 11 = .ok (.iconst 1, 1) := by decide +kernel
theorem dX9_knows_12 : decode cX9_knows 12 = .ok (.iload_n 1, 1) := by decide +kernel
theorem dX9_knows_13 : decode cX9_knows 13 = .ok (.invokevirtual 88, 3) := by decide +kernel
theorem dX9_knows_16 : decode cX9_knows 16 = .ok (.iconst (-1), 1) := by decide +kernel
theorem dX9_knows_17 : decode cX9_knows 17 = .ok (.if_icmp .ne 13, 3) := by decide +kernel
theorem dX9_knows_20 : decode cX9_knows 20 = .ok (.aload_n 0, 1) := by decide +kernel
theorem dX9_knows_21 : decode cX9_knows 21 = .ok (.iconst 2, 1) := by decide +kernel
theorem dX9_knows_22 : decode cX9_knows 22 = .ok (.iload_n 1, 1) := by decide +kernel
theorem dX9_knows_23 : decode cX9_knows 23 = .ok (.invokevirtual 88, 3) := by decide +kernel
theorem dX9_knows_26 : decode cX9_knows 26 = .ok (.iconst (-1), 1) := by decide +kernel
theorem dX9_knows_27 : decode cX9_knows 27 = .ok (.if_icmp .eq 7, 3) := by decide +kernel
theorem dX9_knows_30 : decode cX9_knows 30 = .ok (.iconst 1, 1) := by decide +kernel
theorem dX9_knows_31 : decode cX9_knows 31 = .ok (.goto 4, 3) := by decide +kernel
theorem dX9_knows_34 : decode cX9_knows 34 = .ok (.iconst 0, 1) := by decide +kernel
theorem dX9_knows_35 : decode cX9_knows 35 = .ok (.ireturn, 1) := by decide +kernel
theorem dX9_twins_0 : decode cX9_twins 0 = .ok (.iconst 0, 1) := by decide +kernel
theorem dX9_twins_1 : decode cX9_twins 1 = .ok (.istore_n 1, 1) := by decide +kernel
theorem dX9_twins_2 : decode cX9_twins 2 = .ok (.iconst 0, 1) := by decide +kernel
theorem dX9_twins_3 : decode cX9_twins 3 = .ok (.istore_n 2, 1) := by decide +kernel
theorem dX9_twins_4 : decode cX9_twins 4 = .ok (.iload_n 2, 1) := by decide +kernel
theorem dX9_twins_5 : decode cX9_twins 5 = .ok (.aload_n 0, 1) := by decide +kernel
theorem dX9_twins_6 : decode cX9_twins 6 = .ok (.invokevirtual 92, 3) := by decide +kernel
theorem dX9_twins_9 : decode cX9_twins 9 = .ok (.if_icmp .ge 29, 3) := by decide +kernel
theorem dX9_twins_12 : decode cX9_twins 12 = .ok (.iload_n 1, 1) := by decide +kernel
theorem dX9_twins_13 : decode cX9_twins 13 = .ok (.aload_n 0, 1) := by decide +kernel
theorem dX9_twins_14 : decode cX9_twins 14 = .ok (.getfield 32, 3) := by decide +kernel
theorem dX9_twins_17 : decode cX9_twins 17 = .ok (.iload_n 2, 1) := by decide +kernel
theorem dX9_twins_18 : decode cX9_twins 18 = .ok (.iaload, 1) := by decide +kernel
theorem dX9_twins_19 : decode cX9_twins 19 = .ok (.iconst (-1), 1) := by decide +kernel
theorem dX9_twins_20 : decode cX9_twins 20 = .ok (.if_icmp .eq 9, 3) := by decide +kernel
theorem dX9_twins_23 : decode cX9_twins 23 = .ok (.iconst 1, 1) := by decide +kernel
theorem dX9_twins_24 : decode cX9_twins 24 = .ok (.iload_n 2, 1) := by decide +kernel
theorem dX9_twins_25 : decode cX9_twins 25 = .ok (.ishl, 1) := by decide +kernel
theorem dX9_twins_26 : decode cX9_twins 26 = .ok (.goto 4, 3) := by decide +kernel
theorem dX9_twins_29 : decode cX9_twins 29 = .ok (.iconst 0, 1) := by decide +kernel
theorem dX9_twins_30 : decode cX9_twins 30 = .ok (.ior, 1) := by decide +kernel
theorem dX9_twins_31 : decode cX9_twins 31 = .ok (.istore_n 1, 1) := by decide +kernel
theorem dX9_twins_32 : decode cX9_twins 32 = .ok (.iinc 2 1, 3) := by decide +kernel
theorem dX9_twins_35 : decode cX9_twins 35 = .ok (.goto (-31), 3) := by decide +kernel
theorem dX9_twins_38 : decode cX9_twins 38 = .ok (.iload_n 1, 1) := by decide +kernel
theorem dX9_twins_39 : decode cX9_twins 39 = .ok (.ireturn, 1) := by decide +kernel
theorem dX9_foes_0 : decode cX9_foes 0 = .ok (.iconst 0, 1) := by decide +kernel
theorem dX9_foes_1 : decode cX9_foes 1 = .ok (.istore_n 3, 1) := by decide +kernel
theorem dX9_foes_2 : decode cX9_foes 2 = .ok (.iconst 0, 1) := by decide +kernel
theorem dX9_foes_3 : decode cX9_foes 3 = .ok (.istore 4, 2) := by decide +kernel
theorem dX9_foes_5 : decode cX9_foes 5 = .ok (.iload 4, 2) := by decide +kernel
theorem dX9_foes_7 : decode cX9_foes 7 = .ok (.aload_n 0, 1) := by decide +kernel
theorem dX9_foes_8 : decode cX9_foes 8 = .ok (.getfield 70, 3) := by decide +kernel
theorem dX9_foes_11 : decode cX9_foes 11 = .ok (.if_icmp .ge 60, 3) := by decide +kernel
theorem dX9_foes_14 : decode cX9_foes 14 = .ok (.iload_n 2, 1) := by decide +kernel
theorem dX9_foes_15 : decode cX9_foes 15 = .ok (.iconst 1, 1) := by decide +kernel
theorem dX9_foes_16 : decode cX9_foes 16 = .ok (.iload 4, 2) := by decide +kernel
theorem dX9_foes_18 : decode cX9_foes 18 = .ok (.ishl, 1) := by decide +kernel
theorem dX9_foes_19 : decode cX9_foes 19 = .ok (.iand, 1) := by decide +kernel
theorem dX9_foes_20 : decode cX9_foes 20 = .ok (.ifCond .ne 7, 3) := by decide +kernel
theorem dX9_foes_23 : decode cX9_foes 23 = .ok (.iconst 1, 1) := by decide +kernel
theorem dX9_foes_24 : decode cX9_foes 24 = .ok (.goto 4, 3) := by decide +kernel
theorem dX9_foes_27 : decode cX9_foes 27 = .ok (.iconst 0, 1) := by decide +kernel
theorem dX9_foes_28 : decode cX9_foes 28 = .ok (.istore 5, 2) := by decide +kernel
theorem dX9_foes_30 : decode cX9_foes 30 = .ok (.iload 5, 2) := by decide +kernel
theorem dX9_foes_32 : decode cX9_foes 32 = .ok (.ifCond .eq 33, 3) := by decide +kernel
theorem dX9_foes_35 : decode cX9_foes 35 = .ok (.aload_n 0, 1) := by decide +kernel
theorem dX9_foes_36 : decode cX9_foes 36 = .ok (.getfield 41, 3) := by decide +kernel
theorem dX9_foes_39 : decode cX9_foes 39 = .ok (.iload 4, 2) := by decide +kernel
theorem dX9_foes_41 : decode cX9_foes 41 = .ok (.iaload, 1) := by decide +kernel
theorem dX9_foes_42 : decode cX9_foes 42 = .ok (.iconst 1, 1) := by decide +kernel
theorem dX9_foes_43 : decode cX9_foes 43 = .ok (.iload_n 1, 1) := by decide +kernel
theorem dX9_foes_44 : decode cX9_foes 44 = .ok (.ishl, 1) := by decide +kernel
theorem dX9_foes_45 : decode cX9_foes 45 = .ok (.iand, 1) := by decide +kernel
theorem dX9_foes_46 : decode cX9_foes 46 = .ok (.ifCond .eq 19, 3) := by decide +kernel
theorem dX9_foes_49 : decode cX9_foes 49 = .ok (.iload_n 3, 1) := by decide +kernel
theorem dX9_foes_50 : decode cX9_foes 50 = .ok (.aload_n 0, 1) := by decide +kernel
theorem dX9_foes_51 : decode cX9_foes 51 = .ok (.getfield 41, 3) := by decide +kernel
theorem dX9_foes_54 : decode cX9_foes 54 = .ok (.iload 4, 2) := by decide +kernel
theorem dX9_foes_56 : decode cX9_foes 56 = .ok (.iaload, 1) := by decide +kernel
theorem dX9_foes_57 : decode cX9_foes 57 = .ok (.iconst 1, 1) := by decide +kernel
theorem dX9_foes_58 : decode cX9_foes 58 = .ok (.iload_n 1, 1) := by decide +kernel
theorem dX9_foes_59 : decode cX9_foes 59 = .ok (.ishl, 1) := by decide +kernel
theorem dX9_foes_60 : decode cX9_foes 60 = .ok (.iconst (-1), 1) := by decide +kernel
theorem dX9_foes_61 : decode cX9_foes 61 = .ok (.ixor, 1) := by decide +kernel
theorem dX9_foes_62 : decode cX9_foes 62 = .ok (.iand, 1) := by decide +kernel
theorem dX9_foes_63 : decode cX9_foes 63 = .ok (.ior, 1) := by decide +kernel
theorem dX9_foes_64 : decode cX9_foes 64 = .ok (.istore_n 3, 1) := by decide +kernel
theorem dX9_foes_65 : decode cX9_foes 65 = .ok (.iinc 4 1, 3) := by decide +kernel
theorem dX9_foes_68 : decode cX9_foes 68 = .ok (.goto (-63), 3) := by decide +kernel
theorem dX9_foes_71 : decode cX9_foes 71 = .ok (.iload_n 3, 1) := by decide +kernel
theorem dX9_foes_72 : decode cX9_foes 72 = .ok (.ireturn, 1) := by decide +kernel
theorem dX9_setFacts_0 : decode cX9_setFacts 0 = .ok (.aload_n 0, 1) := by decide +kernel
theorem dX9_setFacts_1 : decode cX9_setFacts 1 = .ok (.getfield 54, 3) := by decide +kernel
theorem dX9_setFacts_4 : decode cX9_setFacts 4 = .ok (.getstatic 96, 3) := by decide +kernel
theorem dX9_setFacts_7 : decode cX9_setFacts 7 = .ok (.getfield 102, 3) := by decide +kernel
theorem dX9_setFacts_10 : decode cX9_setFacts 10 = .ok (.aload_n 0, 1) := by decide +kernel
theorem dX9_setFacts_11 : decode cX9_setFacts 11 = .ok (.getfield 20, 3) := by decide +kernel
theorem dX9_setFacts_14 : decode cX9_setFacts 14 = .ok (.iload_n 1, 1) := by decide +kernel
theorem dX9_setFacts_15 : decode cX9_setFacts 15 = .ok (.iaload, 1) := by decide +kernel
theorem dX9_setFacts_16 : decode cX9_setFacts 16 = .ok (.iastore, 1) := by decide +kernel
theorem dX9_setFacts_17 : decode cX9_setFacts 17 = .ok (.aload_n 0, 1) := by decide +kernel
theorem dX9_setFacts_18 : decode cX9_setFacts 18 = .ok (.getfield 54, 3) := by decide +kernel
theorem dX9_setFacts_21 : decode cX9_setFacts 21 = .ok (.getstatic 105, 3) := by decide +kernel
theorem dX9_setFacts_24 : decode cX9_setFacts 24 = .ok (.getfield 102, 3) := by decide +kernel
theorem dX9_setFacts_27 : decode cX9_setFacts 27 = .ok (.aload_n 0, 1) := by decide +kernel
theorem dX9_setFacts_28 : decode cX9_setFacts 28 = .ok (.getfield 23, 3) := by decide +kernel
theorem dX9_setFacts_31 : decode cX9_setFacts 31 = .ok (.iload_n 1, 1) := by decide +kernel
theorem dX9_setFacts_32 : decode cX9_setFacts 32 = .ok (.iaload, 1) := by decide +kernel
theorem dX9_setFacts_33 : decode cX9_setFacts 33 = .ok (.iastore, 1) := by decide +kernel
theorem dX9_setFacts_34 : decode cX9_setFacts 34 = .ok (.aload_n 0, 1) := by decide +kernel
theorem dX9_setFacts_35 : decode cX9_setFacts 35 = .ok (.getfield 54, 3) := by decide +kernel
theorem dX9_setFacts_38 : decode cX9_setFacts 38 = .ok (.getstatic 108, 3) := by decide +kernel
theorem dX9_setFacts_41 : decode cX9_setFacts 41 = .ok (.getfield 102, 3) := by decide +kernel
theorem dX9_setFacts_44 : decode cX9_setFacts 44 = .ok (.iload_n 2, 1) := by decide +kernel
theorem dX9_setFacts_45 : decode cX9_setFacts 45 = .ok (.iastore, 1) := by decide +kernel
theorem dX9_setFacts_46 : decode cX9_setFacts 46 = .ok (.aload_n 0, 1) := by decide +kernel
theorem dX9_setFacts_47 : decode cX9_setFacts 47 = .ok (.getfield 54, 3) := by decide +kernel
theorem dX9_setFacts_50 : decode cX9_setFacts 50 = .ok (.getstatic 111, 3) := by decide +kernel
theorem dX9_setFacts_53 : decode cX9_setFacts 53 = .ok (.getfield 102, 3) := by decide +kernel
theorem dX9_setFacts_56 : decode cX9_setFacts 56 = .ok (.iload_n 3, 1) := by decide +kernel
theorem dX9_setFacts_57 : decode cX9_setFacts 57 = .ok (.iastore, 1) := by decide +kernel
theorem dX9_setFacts_58 : decode cX9_setFacts 58 = .ok (.aload_n 0, 1) := by decide +kernel
theorem dX9_setFacts_59 : decode cX9_setFacts 59 = .ok (.getfield 54, 3) := by decide +kernel
theorem dX9_setFacts_62 : decode cX9_setFacts 62 = .ok (.getstatic 114, 3) := by decide +kernel
theorem dX9_setFacts_65 : decode cX9_setFacts 65 = .ok (.getfield 102, 3) := by decide +kernel
theorem dX9_setFacts_68 : decode cX9_setFacts 68 = .ok (.iload 4, 2) := by decide +kernel
theorem dX9_setFacts_70 : decode cX9_setFacts 70 = .ok (.iastore, 1) := by decide +kernel
theorem dX9_setFacts_71 : decode cX9_setFacts 71 = .ok (.return_, 1) := by decide +kernel
theorem dX9_grown_0 : decode cX9_grown 0 = .ok (.aload_n 0, 1) := by decide +kernel
theorem dX9_grown_1 : decode cX9_grown 1 = .ok (.getfield 20, 3) := by decide +kernel
theorem dX9_grown_4 : decode cX9_grown 4 = .ok (.iload_n 1, 1) := by decide +kernel
theorem dX9_grown_5 : decode cX9_grown 5 = .ok (.iaload, 1) := by decide +kernel
theorem dX9_grown_6 : decode cX9_grown 6 = .ok (.istore 5, 2) := by decide +kernel
theorem dX9_grown_8 : decode cX9_grown 8 = .ok (.aload_n 0, 1) := by decide +kernel
theorem dX9_grown_9 : decode cX9_grown 9 = .ok (.getfield 47, 3) := by decide +kernel
theorem dX9_grown_12 : decode cX9_grown 12 = .ok (.getfield 66, 3) := by decide +kernel
theorem dX9_grown_15 : decode cX9_grown 15 = .ok (.ifCond .le 25, 3) := by decide +kernel
theorem dX9_grown_18 : decode cX9_grown 18 = .ok (.aload_n 0, 1) := by decide +kernel
theorem dX9_grown_19 : decode cX9_grown 19 = .ok (.iload_n 1, 1) := by decide +kernel
theorem dX9_grown_20 : decode cX9_grown 20 = .ok (.iload_n 2, 1) := by decide +kernel
theorem dX9_grown_21 : decode cX9_grown 21 = .ok (.iload_n 3, 1) := by decide +kernel
theorem dX9_grown_22 : decode cX9_grown 22 = .ok (.iload 4, 2) := by decide +kernel
theorem dX9_grown_24 : decode cX9_grown 24 = .ok (.invokevirtual 117, 3) := by decide +kernel
theorem dX9_grown_27 : decode cX9_grown 27 = .ok (.aload_n 0, 1) := by decide +kernel
theorem dX9_grown_28 : decode cX9_grown 28 = .ok (.getfield 47, 3) := by decide +kernel
theorem dX9_grown_31 : decode cX9_grown 31 = .ok (.aload_n 0, 1) := by decide +kernel
theorem dX9_grown_32 : decode cX9_grown 32 = .ok (.getfield 54, 3) := by decide +kernel
theorem dX9_grown_35 : decode cX9_grown 35 = .ok (.invokevirtual 121, 3) := by decide +kernel
theorem dX9_grown_38 : decode cX9_grown 38 = .ok (.istore 5, 2) := by decide +kernel
theorem dX9_grown_40 : decode cX9_grown 40 = .ok (.iconst 0, 1) := by decide +kernel
theorem dX9_grown_41 : decode cX9_grown 41 = .ok (.bipush 99, 2) := by decide +kernel
theorem dX9_grown_43 : decode cX9_grown 43 = .ok (.iload 5, 2) := by decide +kernel
theorem dX9_grown_45 : decode cX9_grown 45 = .ok (.invokestatic 125, 3) := by decide +kernel
theorem dX9_grown_48 : decode cX9_grown 48 = .ok (.invokestatic 130, 3) := by decide +kernel
theorem dX9_grown_51 : decode cX9_grown 51 = .ok (.istore 5, 2) := by decide +kernel
theorem dX9_grown_53 : decode cX9_grown 53 = .ok (.sipush 999, 3) := by decide +kernel
theorem dX9_grown_56 : decode cX9_grown 56 = .ok (.iload_n 3, 1) := by decide +kernel
theorem dX9_grown_57 : decode cX9_grown 57 = .ok (.iload 5, 2) := by decide +kernel
theorem dX9_grown_59 : decode cX9_grown 59 = .ok (.iadd, 1) := by decide +kernel
theorem dX9_grown_60 : decode cX9_grown 60 = .ok (.invokestatic 125, 3) := by decide +kernel
theorem dX9_grown_63 : decode cX9_grown 63 = .ok (.ireturn, 1) := by decide +kernel
theorem dX11_begin_0 : decode cX11_begin 0 = .ok (.aload_n 0, 1) := by decide +kernel
theorem dX11_begin_1 : decode cX11_begin 1 = .ok (.aload_n 1, 1) := by decide +kernel
theorem dX11_begin_2 : decode cX11_begin 2 = .ok (.putfield 34, 3) := by decide +kernel
theorem dX11_begin_5 : decode cX11_begin 5 = .ok (.aload_n 0, 1) := by decide +kernel
theorem dX11_begin_6 : decode cX11_begin 6 = .ok (.iconst 0, 1) := by decide +kernel
theorem dX11_begin_7 : decode cX11_begin 7 = .ok (.putfield 38, 3) := by decide +kernel
theorem dX11_begin_10 : decode cX11_begin 10 = .ok (.aload_n 0, 1) := by decide +kernel
theorem dX11_begin_11 : decode cX11_begin 11 = .ok (.iconst 0, 1) := by decide +kernel
theorem dX11_begin_12 : decode cX11_begin 12 = .ok (.putfield 42, 3) := by decide +kernel
theorem dX11_begin_15 : decode cX11_begin 15 = .ok (.aload_n 1, 1) := by decide +kernel
theorem dX11_begin_16 : decode cX11_begin 16 = .ok (.getfield 45, 3) := by decide +kernel
theorem dX11_begin_19 : decode cX11_begin 19 = .ok (.iconst 0, 1) := by decide +kernel
theorem dX11_begin_20 : decode cX11_begin 20 = .ok (.aload_n 0, 1) := by decide +kernel
theorem dX11_begin_21 : decode cX11_begin 21 = .ok (.getfield 9, 3) := by decide +kernel
theorem dX11_begin_24 : decode cX11_begin 24 = .ok (.iconst 0, 1) := by decide +kernel
theorem dX11_begin_25 : decode cX11_begin 25 = .ok (.bipush 8, 2) := by decide +kernel
theorem dX11_begin_27 : decode cX11_begin 27 = .ok (.invokestatic 50, 3) := by decide +kernel
theorem dX11_begin_30 : decode cX11_begin 30 = .ok (.aload_n 0, 1) := by decide +kernel
theorem dX11_begin_31 : decode cX11_begin 31 = .ok (.getfield 15, 3) := by decide +kernel
theorem dX11_begin_34 : decode cX11_begin 34 = .ok (.iconst 0, 1) := by decide +kernel
theorem dX11_begin_35 : decode cX11_begin 35 = .ok (.invokestatic 56, 3) := by decide +kernel
theorem dX11_begin_38 : decode cX11_begin 38 = .ok (.aload_n 0, 1) := by decide +kernel
theorem dX11_begin_39 : decode cX11_begin 39 = .ok (.invokevirtual 62, 3) := by decide +kernel
theorem dX11_begin_42 : decode cX11_begin 42 = .ok (.aload_n 0, 1) := by decide +kernel
theorem dX11_begin_43 : decode cX11_begin 43 = .ok (.invokevirtual 65, 3) := by decide +kernel
theorem dX11_begin_46 : decode cX11_begin 46 = .ok (.return_, 1) := by decide +kernel
theorem dX11_clearWalls_0 : decode cX11_clearWalls 0 = .ok (.aload_n 0, 1) := by decide +kernel
theorem dX11_clearWalls_1 : decode cX11_clearWalls 1 = .ok (.getfield 18, 3) := by decide +kernel
theorem dX11_clearWalls_4 : decode cX11_clearWalls 4 = .ok (.iconst (-1), 1) := by decide +kernel
theorem dX11_clearWalls_5 : decode cX11_clearWalls 5 = .ok (.invokestatic 56, 3) := by decide +kernel
theorem dX11_clearWalls_8 : decode cX11_clearWalls 8 = .ok (.aload_n 0, 1) := by decide +kernel
theorem dX11_clearWalls_9 : decode cX11_clearWalls 9 = .ok (.getfield 21, 3) := by decide +kernel
theorem dX11_clearWalls_12 : decode cX11_clearWalls 12 = .ok (.iconst (-1), 1) := by decide +kernel
theorem dX11_clearWalls_13 : decode cX11_clearWalls 13 = .ok (.invokestatic 56, 3) := by decide +kernel
theorem dX11_clearWalls_16 : decode cX11_clearWalls 16 = .ok (.aload_n 0, 1) := by decide +kernel
theorem dX11_clearWalls_17 : decode cX11_clearWalls 17 = .ok (.getfield 24, 3) := by decide +kernel
theorem dX11_clearWalls_20 : decode cX11_clearWalls 20 = .ok (.iconst 0, 1) := by decide +kernel
theorem dX11_clearWalls_21 : decode cX11_clearWalls 21 = .ok (.invokestatic 56, 3) := by decide +kernel
theorem dX11_clearWalls_24 : decode cX11_clearWalls 24 = .ok (.return_, 1) := by decide +kernel
theorem dX11_clearCounts_0 : decode cX11_clearCounts 0 = .ok (.aload_n 0, 1) := by decide +kernel
theorem dX11_clearCounts_1 : decode cX11_clearCounts 1 = .ok (.iconst 0, 1) := by decide +kernel
theorem dX11_clearCounts_2 : decode cX11_clearCounts 2 = .ok (.putfield 68, 3) := by decide +kernel
theorem dX11_clearCounts_5 : decode cX11_clearCounts 5 = .ok (.aload_n 0, 1) := by decide +kernel
theorem dX11_clearCounts_6 : decode cX11_clearCounts 6 = .ok (.iconst 0, 1) := by decide +kernel
theorem dX11_clearCounts_7 : decode cX11_clearCounts 7 = .ok (.putfield 71, 3) := by decide +kernel
theorem dX11_clearCounts_10 : decode cX11_clearCounts 10 = .ok (.aload_n 0, 1) := by decide +kernel
theorem dX11_clearCounts_11 : decode cX11_clearCounts 11 = .ok (.iconst 0, 1) := by decide +kernel
theorem dX11_clearCounts_12 : decode cX11_clearCounts 12 = .ok (.putfield 74, 3) := by decide +kernel
theorem dX11_clearCounts_15 : decode cX11_clearCounts 15 = .ok (.aload_n 0, 1) := by decide +kernel
theorem dX11_clearCounts_16 : decode cX11_clearCounts 16 = .ok (.iconst 0, 1) := by decide +kernel
theorem dX11_clearCounts_17 : decode cX11_clearCounts 17 = .ok (.putfield 77, 3) := by decide +kernel
theorem dX11_clearCounts_20 : decode cX11_clearCounts 20 = .ok (.return_, 1) := by decide +kernel
theorem dX11_copy_0 : decode cX11_copy 0 = .ok (.aload_n 0, 1) := by decide +kernel
theorem dX11_copy_1 : decode cX11_copy 1 = .ok (.aload_n 1, 1) := by decide +kernel
theorem dX11_copy_2 : decode cX11_copy 2 = .ok (.getfield 34, 3) := by decide +kernel
theorem dX11_copy_5 : decode cX11_copy 5 = .ok (.putfield 34, 3) := by decide +kernel
theorem dX11_copy_8 : decode cX11_copy 8 = .ok (.aload_n 0, 1) := by decide +kernel
theorem dX11_copy_9 : decode cX11_copy 9 = .ok (.aload_n 1, 1) := by decide +kernel
theorem dX11_copy_10 : decode cX11_copy 10 = .ok (.getfield 38, 3) := by decide +kernel
theorem dX11_copy_13 : decode cX11_copy 13 = .ok (.putfield 38, 3) := by decide +kernel
theorem dX11_copy_16 : decode cX11_copy 16 = .ok (.aload_n 0, 1) := by decide +kernel
theorem dX11_copy_17 : decode cX11_copy 17 = .ok (.aload_n 1, 1) := by decide +kernel
theorem dX11_copy_18 : decode cX11_copy 18 = .ok (.getfield 42, 3) := by decide +kernel
theorem dX11_copy_21 : decode cX11_copy 21 = .ok (.putfield 42, 3) := by decide +kernel
theorem dX11_copy_24 : decode cX11_copy 24 = .ok (.aload_n 1, 1) := by decide +kernel
theorem dX11_copy_25 : decode cX11_copy 25 = .ok (.getfield 9, 3) := by decide +kernel
theorem dX11_copy_28 : decode cX11_copy 28 = .ok (.iconst 0, 1) := by decide +kernel
theorem dX11_copy_29 : decode cX11_copy 29 = .ok (.aload_n 0, 1) := by decide +kernel
theorem dX11_copy_30 : decode cX11_copy 30 = .ok (.getfield 9, 3) := by decide +kernel
theorem dX11_copy_33 : decode cX11_copy 33 = .ok (.iconst 0, 1) := by decide +kernel
theorem dX11_copy_34 : decode cX11_copy 34 = .ok (.bipush 8, 2) := by decide +kernel
theorem dX11_copy_36 : decode cX11_copy 36 = .ok (.invokestatic 50, 3) := by decide +kernel
theorem dX11_copy_39 : decode cX11_copy 39 = .ok (.aload_n 1, 1) := by decide +kernel
theorem dX11_copy_40 : decode cX11_copy 40 = .ok (.getfield 15, 3) := by decide +kernel
theorem dX11_copy_43 : decode cX11_copy 43 = .ok (.iconst 0, 1) := by decide +kernel
theorem dX11_copy_44 : decode cX11_copy 44 = .ok (.aload_n 0, 1) := by decide +kernel
theorem dX11_copy_45 : decode cX11_copy 45 = .ok (.getfield 15, 3) := by decide +kernel
theorem dX11_copy_48 : decode cX11_copy 48 = .ok (.iconst 0, 1) := by decide +kernel
theorem dX11_copy_49 : decode cX11_copy 49 = .ok (.bipush 8, 2) := by decide +kernel
theorem dX11_copy_51 : decode cX11_copy 51 = .ok (.invokestatic 50, 3) := by decide +kernel
theorem dX11_copy_54 : decode cX11_copy 54 = .ok (.aload_n 1, 1) := by decide +kernel
theorem dX11_copy_55 : decode cX11_copy 55 = .ok (.getfield 18, 3) := by decide +kernel
theorem dX11_copy_58 : decode cX11_copy 58 = .ok (.iconst 0, 1) := by decide +kernel
theorem dX11_copy_59 : decode cX11_copy 59 = .ok (.aload_n 0, 1) := by decide +kernel
theorem dX11_copy_60 : decode cX11_copy 60 = .ok (.getfield 18, 3) := by decide +kernel
theorem dX11_copy_63 : decode cX11_copy 63 = .ok (.iconst 0, 1) := by decide +kernel
theorem dX11_copy_64 : decode cX11_copy 64 = .ok (.bipush 8, 2) := by decide +kernel
theorem dX11_copy_66 : decode cX11_copy 66 = .ok (.invokestatic 50, 3) := by decide +kernel
theorem dX11_copy_69 : decode cX11_copy 69 = .ok (.aload_n 1, 1) := by decide +kernel
theorem dX11_copy_70 : decode cX11_copy 70 = .ok (.getfield 21, 3) := by decide +kernel
theorem dX11_copy_73 : decode cX11_copy 73 = .ok (.iconst 0, 1) := by decide +kernel
theorem dX11_copy_74 : decode cX11_copy 74 = .ok (.aload_n 0, 1) := by decide +kernel
theorem dX11_copy_75 : decode cX11_copy 75 = .ok (.getfield 21, 3) := by decide +kernel
theorem dX11_copy_78 : decode cX11_copy 78 = .ok (.iconst 0, 1) := by decide +kernel
theorem dX11_copy_79 : decode cX11_copy 79 = .ok (.aload_n 0, 1) := by decide +kernel
theorem dX11_copy_80 : decode cX11_copy 80 = .ok (.getfield 21, 3) := by decide +kernel
theorem dX11_copy_83 : decode cX11_copy 83 = .ok (.arraylength, 1) := by decide +kernel
theorem dX11_copy_84 : decode cX11_copy 84 = .ok (.invokestatic 50, 3) := by decide +kernel
theorem dX11_copy_87 : decode cX11_copy 87 = .ok (.aload_n 1, 1) := by decide +kernel
theorem dX11_copy_88 : decode cX11_copy 88 = .ok (.getfield 24, 3) := by decide +kernel
theorem dX11_copy_91 : decode cX11_copy 91 = .ok (.iconst 0, 1) := by decide +kernel
theorem dX11_copy_92 : decode cX11_copy 92 = .ok (.aload_n 0, 1) := by decide +kernel
theorem dX11_copy_93 : decode cX11_copy 93 = .ok (.getfield 24, 3) := by decide +kernel
theorem dX11_copy_96 : decode cX11_copy 96 = .ok (.iconst 0, 1) := by decide +kernel
theorem dX11_copy_97 : decode cX11_copy 97 = .ok (.aload_n 0, 1) := by decide +kernel
theorem dX11_copy_98 : decode cX11_copy 98 = .ok (.getfield 24, 3) := by decide +kernel
theorem dX11_copy_101 : decode cX11_copy 101 = .ok (.arraylength, 1) := by decide +kernel
theorem dX11_copy_102 : decode cX11_copy 102 = .ok (.invokestatic 50, 3) := by decide +kernel
theorem dX11_copy_105 : decode cX11_copy 105 = .ok (.aload_n 0, 1) := by decide +kernel
theorem dX11_copy_106 : decode cX11_copy 106 = .ok (.invokevirtual 65, 3) := by decide +kernel
theorem dX11_copy_109 : decode cX11_copy 109 = .ok (.return_, 1) := by decide +kernel
theorem dX11_spot_0 : decode cX11_spot 0 = .ok (.iload_n 0, 1) := by decide +kernel
theorem dX11_spot_1 : decode cX11_spot 1 = .ok (.iconst 4, 1) := by decide +kernel
theorem dX11_spot_2 : decode cX11_spot 2 = .ok (.imul, 1) := by decide +kernel
theorem dX11_spot_3 : decode cX11_spot 3 = .ok (.iload_n 1, 1) := by decide +kernel
theorem dX11_spot_4 : decode cX11_spot 4 = .ok (.iadd, 1) := by decide +kernel
theorem dX11_spot_5 : decode cX11_spot 5 = .ok (.iconst 4, 1) := by decide +kernel
theorem dX11_spot_6 : decode cX11_spot 6 = .ok (.imul, 1) := by decide +kernel
theorem dX11_spot_7 : decode cX11_spot 7 = .ok (.iload_n 2, 1) := by decide +kernel
theorem dX11_spot_8 : decode cX11_spot 8 = .ok (.iadd, 1) := by decide +kernel
theorem dX11_spot_9 : decode cX11_spot 9 = .ok (.ireturn, 1) := by decide +kernel
theorem dX11_wallAt_0 : decode cX11_wallAt 0 = .ok (.iload_n 0, 1) := by decide +kernel
theorem dX11_wallAt_1 : decode cX11_wallAt 1 = .ok (.bipush 16, 2) := by decide +kernel
theorem dX11_wallAt_3 : decode cX11_wallAt 3 = .ok (.idiv, 1) := by decide +kernel
theorem dX11_wallAt_4 : decode cX11_wallAt 4 = .ok (.ireturn, 1) := by decide +kernel
theorem dX11_age_0 : decode cX11_age 0 = .ok (.aload_n 0, 1) := by decide +kernel
theorem dX11_age_1 : decode cX11_age 1 = .ok (.getfield 38, 3) := by decide +kernel
theorem dX11_age_4 : decode cX11_age 4 = .ok (.aload_n 0, 1) := by decide +kernel
theorem dX11_age_5 : decode cX11_age 5 = .ok (.getfield 34, 3) := by decide +kernel
theorem dX11_age_8 : decode cX11_age 8 = .ok (.getfield 80, 3) := by decide +kernel
theorem dX11_age_11 : decode cX11_age 11 = .ok (.iload_n 1, 1) := by decide +kernel
theorem dX11_age_12 : decode cX11_age 12 = .ok (.iaload, 1) := by decide +kernel
theorem dX11_age_13 : decode cX11_age 13 = .ok (.isub, 1) := by decide +kernel
theorem dX11_age_14 : decode cX11_age 14 = .ok (.ireturn, 1) := by decide +kernel
theorem dX11_isDone_0 : decode cX11_isDone 0 = .ok (.aload_n 0, 1) := by decide +kernel
theorem dX11_isDone_1 : decode cX11_isDone 1 = .ok (.iload_n 1, 1) := by decide +kernel
theorem dX11_isDone_2 : decode cX11_isDone 2 = .ok (.invokevirtual 83, 3) := by decide +kernel
theorem dX11_isDone_5 : decode cX11_isDone 5 = .ok (.aload_n 0, 1) := by decide +kernel
theorem dX11_isDone_6 : decode cX11_isDone 6 = .ok (.getfield 34, 3) := by decide +kernel
theorem dX11_isDone_9 : decode cX11_isDone 9 = .ok (.getfield 87, 3) := by decide +kernel
theorem dX11_isDone_12 : decode cX11_isDone 12 = .ok (.if_icmp .lt 7, 3) := by decide +kernel
theorem dX11_isDone_15 : decode cX11_isDone 15 = .ok (.iconst 1, 1) := by decide +kernel
theorem dX11_isDone_16 : decode cX11_isDone 16 = .ok (.goto 4, 3) := by decide +kernel
theorem dX11_isDone_19 : decode cX11_isDone 19 = .ok (.iconst 0, 1) := by decide +kernel
theorem dX11_isDone_20 : decode cX11_isDone 20 = .ok (.ireturn, 1) := by decide +kernel
theorem dX11_where_0 : decode cX11_where 0 = .ok (.aload_n 0, 1) := by decide +kernel
theorem dX11_where_1 : decode cX11_where 1 = .ok (.getfield 18, 3) := by decide +kernel
theorem dX11_where_4 : decode cX11_where 4 = .ok (.iload_n 1, 1) := by decide +kernel
theorem dX11_where_5 : decode cX11_where 5 = .ok (.iaload, 1) := by decide +kernel
theorem dX11_where_6 : decode cX11_where 6 = .ok (.iconst (-1), 1) := by decide +kernel
theorem dX11_where_7 : decode cX11_where 7 = .ok (.if_icmp .eq 5, 3) := by decide +kernel
theorem dX11_where_10 : decode cX11_where 10 = .ok (.iconst 3, 1) := by decide +kernel
theorem dX11_where_11 : decode cX11_where 11 = .ok (.ireturn, 1) := by decide +kernel
theorem dX11_where_12 : decode cX11_where 12 = .ok (.aload_n 0, 1) := by decide +kernel
theorem dX11_where_13 : decode cX11_where 13 = .ok (.iload_n 1, 1) := by decide +kernel
theorem dX11_where_14 : decode cX11_where 14 = .ok (.invokevirtual 90, 3) := by decide +kernel
theorem dX11_where_17 : decode cX11_where 17 = .ok (.ifCond .eq 5, 3) := by decide +kernel
theorem dX11_where_20 : decode cX11_where 20 = .ok (.iconst 2, 1) := by decide +kernel
theorem dX11_where_21 : decode cX11_where 21 = .ok (.ireturn, 1) := by decide +kernel
theorem dX11_where_22 : decode cX11_where 22 = .ok (.aload_n 0, 1) := by decide +kernel
theorem dX11_where_23 : decode cX11_where 23 = .ok (.iload_n 1, 1) := by decide +kernel
theorem dX11_where_24 : decode cX11_where 24 = .ok (.invokevirtual 83, 3) := by decide +kernel
theorem dX11_where_27 : decode cX11_where 27 = .ok (.aload_n 0, 1) := by decide +kernel
theorem dX11_where_28 : decode cX11_where 28 = .ok (.getfield 34, 3) := by decide +kernel
theorem dX11_where_31 : decode cX11_where 31 = .ok (.getfield 94, 3) := by decide +kernel
theorem dX11_where_34 : decode cX11_where 34 = .ok (.if_icmp .lt 7, 3) := by decide +kernel
theorem dX11_where_37 : decode cX11_where 37 = .ok (.iconst 1, 1) := by decide +kernel
theorem dX11_where_38 : decode cX11_where 38 = .ok (.goto 4, 3) := by decide +kernel
theorem dX11_where_41 : decode cX11_where 41 = .ok (.iconst 0, 1) := by decide +kernel
theorem dX11_where_42 : decode cX11_where 42 = .ok (.ireturn, 1) := by decide +kernel
theorem dX11_bitsAt_0 : decode cX11_bitsAt 0 = .ok (.iconst 0, 1) := by decide +kernel
theorem dX11_bitsAt_1 : decode cX11_bitsAt 1 = .ok (.istore_n 2, 1) := by decide +kernel
theorem dX11_bitsAt_2 : decode cX11_bitsAt 2 = .ok (.iconst 0, 1) := by decide +kernel
theorem dX11_bitsAt_3 : decode cX11_bitsAt 3 = .ok (.istore_n 3, 1) := by decide +kernel
theorem dX11_bitsAt_4 : decode cX11_bitsAt 4 = .ok (.iload_n 3, 1) := by decide +kernel
theorem dX11_bitsAt_5 : decode cX11_bitsAt 5 = .ok (.aload_n 0, 1) := by decide +kernel
theorem dX11_bitsAt_6 : decode cX11_bitsAt 6 = .ok (.getfield 34, 3) := by decide +kernel
theorem dX11_bitsAt_9 : decode cX11_bitsAt 9 = .ok (.invokevirtual 97, 3) := by decide +kernel
theorem dX11_bitsAt_12 : decode cX11_bitsAt 12 = .ok (.if_icmp .ge 28, 3) := by decide +kernel
theorem dX11_bitsAt_15 : decode cX11_bitsAt 15 = .ok (.iload_n 2, 1) := by decide +kernel
theorem dX11_bitsAt_16 : decode cX11_bitsAt 16 = .ok (.aload_n 0, 1) := by decide +kernel
theorem dX11_bitsAt_17 : decode cX11_bitsAt 17 = .ok (.iload_n 3, 1) := by decide +kernel
theorem dX11_bitsAt_18 : decode cX11_bitsAt 18 = .ok (.invokevirtual 101, 3) := by decide +kernel
theorem dX11_bitsAt_21 : decode cX11_bitsAt 21 = .ok (.iload_n 1, 1) := by decide +kernel
theorem dX11_bitsAt_22 : decode cX11_bitsAt 22 = .ok (.if_icmp .ne 9, 3) := by decide +kernel
theorem dX11_bitsAt_25 : decode cX11_bitsAt 25 = .ok (.iconst 1, 1) := by decide +kernel
theorem dX11_bitsAt_26 : decode cX11_bitsAt 26 = .ok (.iload_n 3, 1) := by decide +kernel
theorem dX11_bitsAt_27 : decode cX11_bitsAt 27 = .ok (.ishl, 1) := by decide +kernel
theorem dX11_bitsAt_28 : decode cX11_bitsAt 28 = .ok (.goto 4, 3) := by decide +kernel
theorem dX11_bitsAt_31 : decode cX11_bitsAt 31 = .ok (.iconst 0, 1) := by decide +kernel
theorem dX11_bitsAt_32 : decode cX11_bitsAt 32 = .ok (.ior, 1) := by decide +kernel
theorem dX11_bitsAt_33 : decode cX11_bitsAt 33 = .ok (.istore_n 2, 1) := by decide +kernel
theorem dX11_bitsAt_34 : decode cX11_bitsAt 34 = .ok (.iinc 3 1, 3) := by decide +kernel
theorem dX11_bitsAt_37 : decode cX11_bitsAt 37 = .ok (.goto (-33), 3) := by decide +kernel
theorem dX11_bitsAt_40 : decode cX11_bitsAt 40 = .ok (.iload_n 2, 1) := by decide +kernel
theorem dX11_bitsAt_41 : decode cX11_bitsAt 41 = .ok (.ireturn, 1) := by decide +kernel
theorem dX11_livingAt_0 : decode cX11_livingAt 0 = .ok (.iconst 0, 1) := by decide +kernel
theorem dX11_livingAt_1 : decode cX11_livingAt 1 = .ok (.istore_n 2, 1) := by decide +kernel
theorem dX11_livingAt_2 : decode cX11_livingAt 2 = .ok (.iconst 0, 1) := by decide +kernel
theorem dX11_livingAt_3 : decode cX11_livingAt 3 = .ok (.istore_n 3, 1) := by decide +kernel
theorem dX11_livingAt_4 : decode cX11_livingAt 4 = .ok (.iload_n 3, 1) := by decide +kernel
theorem dX11_livingAt_5 : decode cX11_livingAt 5 = .ok (.aload_n 0, 1) := by decide +kernel
theorem dX11_livingAt_6 : decode cX11_livingAt 6 = .ok (.getfield 34, 3) := by decide +kernel
theorem dX11_livingAt_9 : decode cX11_livingAt 9 = .ok (.invokevirtual 97, 3) := by decide +kernel
theorem dX11_livingAt_12 : decode cX11_livingAt 12 = .ok (.if_icmp .ge 29, 3) := by decide +kernel
theorem dX11_livingAt_15 : decode cX11_livingAt 15 = .ok (.iload_n 2, 1) := by decide +kernel
theorem dX11_livingAt_16 : decode cX11_livingAt 16 = .ok (.aload_n 0, 1) := by decide +kernel
theorem dX11_livingAt_17 : decode cX11_livingAt 17 = .ok (.getfield 9, 3) := by decide +kernel
theorem dX11_livingAt_20 : decode cX11_livingAt 20 = .ok (.iload_n 3, 1) := by decide +kernel
theorem dX11_livingAt_21 : decode cX11_livingAt 21 = .ok (.iaload, 1) := by decide +kernel
theorem dX11_livingAt_22 : decode cX11_livingAt 22 = .ok (.iload_n 1, 1) := by decide +kernel
theorem dX11_livingAt_23 : decode cX11_livingAt 23 = .ok (.if_icmp .ne 9, 3) := by decide +kernel
theorem dX11_livingAt_26 : decode cX11_livingAt 26 = .ok (.iconst 1, 1) := by decide +kernel
theorem dX11_livingAt_27 : decode cX11_livingAt 27 = .ok (.iload_n 3, 1) := by decide +kernel
theorem dX11_livingAt_28 : decode cX11_livingAt 28 = .ok (.ishl, 1) := by decide +kernel
theorem dX11_livingAt_29 : decode cX11_livingAt 29 = .ok (.goto 4, 3) := by decide +kernel
theorem dX11_livingAt_32 : decode cX11_livingAt 32 = .ok (.iconst 0, 1) := by decide +kernel
theorem dX11_livingAt_33 : decode cX11_livingAt 33 = .ok (.ior, 1) := by decide +kernel
theorem dX11_livingAt_34 : decode cX11_livingAt 34 = .ok (.istore_n 2, 1) := by decide +kernel
theorem dX11_livingAt_35 : decode cX11_livingAt 35 = .ok (.iinc 3 1, 3) := by decide +kernel
theorem dX11_livingAt_38 : decode cX11_livingAt 38 = .ok (.goto (-34), 3) := by decide +kernel
theorem dX11_livingAt_41 : decode cX11_livingAt 41 = .ok (.iload_n 2, 1) := by decide +kernel
theorem dX11_livingAt_42 : decode cX11_livingAt 42 = .ok (.ireturn, 1) := by decide +kernel
theorem dX11_strongTogether_0 : decode cX11_strongTogether 0 = .ok (.iconst 0, 1) := by decide +kernel
theorem dX11_strongTogether_1 : decode cX11_strongTogether 1 = .ok (.istore_n 1, 1) := by decide +kernel
theorem dX11_strongTogether_2 : decode cX11_strongTogether 2 = .ok (.iconst 0, 1) := by decide +kernel
theorem dX11_strongTogether_3 : decode cX11_strongTogether 3 = .ok (.istore_n 2, 1) := by decide +kernel
theorem dX11_strongTogether_4 : decode cX11_strongTogether 4 = .ok (.iload_n 2, 1) := by decide +kernel
theorem dX11_strongTogether_5 : decode cX11_strongTogether 5 = .ok (.aload_n 0, 1) := by decide +kernel
theorem dX11_strongTogether_6 : decode cX11_strongTogether 6 = .ok (.getfield 34, 3) := by decide +kernel
theorem dX11_strongTogether_9 : decode cX11_strongTogether 9 = .ok (.invokevirtual 97, 3) := by decide +kernel
theorem dX11_strongTogether_12 : decode cX11_strongTogether 12 = .ok (.if_icmp .ge 18, 3) := by decide +kernel
theorem dX11_strongTogether_15 : decode cX11_strongTogether 15 = .ok (.iload_n 1, 1) := by decide +kernel
theorem dX11_strongTogether_16 : decode cX11_strongTogether 16 = .ok (.aload_n 0, 1) := by decide +kernel
theorem dX11_strongTogether_17 : decode cX11_strongTogether 17 = .ok (.getfield 15, 3) := by decide +kernel
theorem dX11_strongTogether_20 : decode cX11_strongTogether 20 = .ok (.iload_n 2, 1) := by decide +kernel
theorem dX11_strongTogether_21 : decode cX11_strongTogether 21 = .ok (.iaload, 1) := by decide +kernel
theorem dX11_strongTogether_22 : decode cX11_strongTogether 22 = .ok (.iadd, 1) := by decide +kernel
theorem dX11_strongTogether_23 : decode cX11_strongTogether 23 = .ok (.istore_n 1, 1) := by decide +kernel
theorem dX11_strongTogether_24 : decode cX11_strongTogether 24 = .ok (.iinc 2 1, 3) := by decide +kernel
theorem dX11_strongTogether_27 : decode cX11_strongTogether 27 = .ok (.goto (-23), 3) := by decide +kernel
theorem dX11_strongTogether_30 : decode cX11_strongTogether 30 = .ok (.iload_n 1, 1) := by decide +kernel
theorem dX11_strongTogether_31 : decode cX11_strongTogether 31 = .ok (.ireturn, 1) := by decide +kernel
theorem dX11_stonesIn_0 : decode cX11_stonesIn 0 = .ok (.iconst 0, 1) := by decide +kernel
theorem dX11_stonesIn_1 : decode cX11_stonesIn 1 = .ok (.istore_n 2, 1) := by decide +kernel
theorem dX11_stonesIn_2 : decode cX11_stonesIn 2 = .ok (.iconst 0, 1) := by decide +kernel
theorem dX11_stonesIn_3 : decode cX11_stonesIn 3 = .ok (.istore_n 3, 1) := by decide +kernel
theorem dX11_stonesIn_4 : decode cX11_stonesIn 4 = .ok (.iload_n 3, 1) := by decide +kernel
theorem dX11_stonesIn_5 : decode cX11_stonesIn 5 = .ok (.aload_n 0, 1) := by decide +kernel
theorem dX11_stonesIn_6 : decode cX11_stonesIn 6 = .ok (.getfield 34, 3) := by decide +kernel
theorem dX11_stonesIn_9 : decode cX11_stonesIn 9 = .ok (.getfield 104, 3) := by decide +kernel
theorem dX11_stonesIn_12 : decode cX11_stonesIn 12 = .ok (.iload_n 1, 1) := by decide +kernel
theorem dX11_stonesIn_13 : decode cX11_stonesIn 13 = .ok (.iaload, 1) := by decide +kernel
theorem dX11_stonesIn_14 : decode cX11_stonesIn 14 = .ok (.if_icmp .ge 22, 3) := by decide +kernel
theorem dX11_stonesIn_17 : decode cX11_stonesIn 17 = .ok (.iload_n 2, 1) := by decide +kernel
theorem dX11_stonesIn_18 : decode cX11_stonesIn 18 = .ok (.aload_n 0, 1) := by decide +kernel
theorem dX11_stonesIn_19 : decode cX11_stonesIn 19 = .ok (.getfield 24, 3) := by decide +kernel
theorem dX11_stonesIn_22 : decode cX11_stonesIn 22 = .ok (.iload_n 1, 1) := by decide +kernel
theorem dX11_stonesIn_23 : decode cX11_stonesIn 23 = .ok (.iconst 4, 1) := by decide +kernel
theorem dX11_stonesIn_24 : decode cX11_stonesIn 24 = .ok (.imul, 1) := by decide +kernel
theorem dX11_stonesIn_25 : decode cX11_stonesIn 25 = .ok (.iload_n 3, 1) := by decide +kernel
theorem dX11_stonesIn_26 : decode cX11_stonesIn 26 = .ok (.iadd, 1) := by decide +kernel
theorem dX11_stonesIn_27 : decode cX11_stonesIn 27 = .ok (.iaload, 1) := by decide +kernel
theorem dX11_stonesIn_28 : decode cX11_stonesIn 28 = .ok (.iadd, 1) := by decide +kernel
theorem dX11_stonesIn_29 : decode cX11_stonesIn 29 = .ok (.istore_n 2, 1) := by decide +kernel
theorem dX11_stonesIn_30 : decode cX11_stonesIn 30 = .ok (.iinc 3 1, 3) := by decide +kernel
theorem dX11_stonesIn_33 : decode cX11_stonesIn 33 = .ok (.goto (-29), 3) := by decide +kernel
theorem dX11_stonesIn_36 : decode cX11_stonesIn 36 = .ok (.iload_n 2, 1) := by decide +kernel
theorem dX11_stonesIn_37 : decode cX11_stonesIn 37 = .ok (.ireturn, 1) := by decide +kernel
theorem dX11_fullWalls_0 : decode cX11_fullWalls 0 = .ok (.iconst 0, 1) := by decide +kernel
theorem dX11_fullWalls_1 : decode cX11_fullWalls 1 = .ok (.istore_n 1, 1) := by decide +kernel
theorem dX11_fullWalls_2 : decode cX11_fullWalls 2 = .ok (.iconst 0, 1) := by decide +kernel
theorem dX11_fullWalls_3 : decode cX11_fullWalls 3 = .ok (.istore_n 2, 1) := by decide +kernel
theorem dX11_fullWalls_4 : decode cX11_fullWalls 4 = .ok (.iload_n 2, 1) := by decide +kernel
theorem dX11_fullWalls_5 : decode cX11_fullWalls 5 = .ok (.aload_n 0, 1) := by decide +kernel
theorem dX11_fullWalls_6 : decode cX11_fullWalls 6 = .ok (.getfield 34, 3) := by decide +kernel
theorem dX11_fullWalls_9 : decode cX11_fullWalls 9 = .ok (.invokevirtual 107, 3) := by decide +kernel
theorem dX11_fullWalls_12 : decode cX11_fullWalls 12 = .ok (.if_icmp .ge 44, 3) := by decide +kernel
theorem dX11_fullWalls_15 : decode cX11_fullWalls 15 = .ok (.iload_n 1, 1) := by decide +kernel
theorem dX11_fullWalls_16 : decode cX11_fullWalls 16 = .ok (.aload_n 0, 1) := by decide +kernel
theorem dX11_fullWalls_17 : decode cX11_fullWalls 17 = .ok (.iload_n 2, 1) := by decide +kernel
theorem dX11_fullWalls_18 : decode cX11_fullWalls 18 = .ok (.invokevirtual 110, 3) := by decide +kernel
theorem dX11_fullWalls_21 : decode cX11_fullWalls 21 = .ok (.aload_n 0, 1) := by decide +kernel
theorem dX11_fullWalls_22 : decode cX11_fullWalls 22 = .ok (.getfield 34, 3) := by decide +kernel
theorem dX11_fullWalls_25 : decode cX11_fullWalls 25 = .ok (.getfield 104, 3) := by decide +kernel
theorem dX11_fullWalls_28 : decode cX11_fullWalls 28 = .ok (.iload_n 2, 1) := by decide +kernel
theorem dX11_fullWalls_29 : decode cX11_fullWalls 29 = .ok (.iaload, 1) := by decide +kernel
theorem dX11_fullWalls_30 : decode cX11_fullWalls 30 = .ok (.aload_n 0, 1) := by decide +kernel
theorem dX11_fullWalls_31 : decode cX11_fullWalls 31 = .ok (.getfield 34, 3) := by decide +kernel
theorem dX11_fullWalls_34 : decode cX11_fullWalls 34 = .ok (.getfield 113, 3) := by decide +kernel
theorem dX11_fullWalls_37 : decode cX11_fullWalls 37 = .ok (.iload_n 2, 1) := by decide +kernel
theorem dX11_fullWalls_38 : decode cX11_fullWalls 38 = .ok (.iaload, 1) := by decide +kernel
theorem dX11_fullWalls_39 : decode cX11_fullWalls 39 = .ok (.imul, 1) := by decide +kernel
theorem dX11_fullWalls_40 : decode cX11_fullWalls 40 = .ok (.if_icmp .ne 7, 3) := by decide +kernel
theorem dX11_fullWalls_43 : decode cX11_fullWalls 43 = .ok (.iconst 1, 1) := by decide +kernel
theorem dX11_fullWalls_44 : decode cX11_fullWalls 44 = .ok (.goto 4, 3) := by decide +kernel
theorem dX11_fullWalls_47 : decode cX11_fullWalls 47 = .ok (.iconst 0, 1) := by decide +kernel
theorem dX11_fullWalls_48 : decode cX11_fullWalls 48 = .ok (.iadd, 1) := by decide +kernel
theorem dX11_fullWalls_49 : decode cX11_fullWalls 49 = .ok (.istore_n 1, 1) := by decide +kernel
theorem dX11_fullWalls_50 : decode cX11_fullWalls 50 = .ok (.iinc 2 1, 3) := by decide +kernel
theorem dX11_fullWalls_53 : decode cX11_fullWalls 53 = .ok (.goto (-49), 3) := by decide +kernel
theorem dX11_fullWalls_56 : decode cX11_fullWalls 56 = .ok (.iload_n 1, 1) := by decide +kernel
theorem dX11_fullWalls_57 : decode cX11_fullWalls 57 = .ok (.ireturn, 1) := by decide +kernel
theorem dX11_lying_0 : decode cX11_lying 0 = .ok (.aload_n 0, 1) := by decide +kernel
theorem dX11_lying_1 : decode cX11_lying 1 = .ok (.getfield 18, 3) := by decide +kernel
theorem dX11_lying_4 : decode cX11_lying 4 = .ok (.iload_n 1, 1) := by decide +kernel
theorem dX11_lying_5 : decode cX11_lying 5 = .ok (.iaload, 1) := by decide +kernel
theorem dX11_lying_6 : decode cX11_lying 6 = .ok (.istore_n 3, 1) := by decide +kernel
theorem dX11_lying_7 : decode cX11_lying 7 = .ok (.iload_n 2, 1) := by decide +kernel
theorem dX11_lying_8 : decode cX11_lying 8 = .ok (.tableswitch 64 2 6 #[36, 41, 47, 51, 57], 36) := by decide +kernel
theorem dX11_lying_44 : decode cX11_lying 44 = .ok (.iload_n 3, 1) := by decide +kernel
theorem dX11_lying_45 : decode cX11_lying 45 = .ok (.invokestatic 116, 3) := by decide +kernel
theorem dX11_lying_48 : decode cX11_lying 48 = .ok (.ireturn, 1) := by decide +kernel
theorem dX11_lying_49 : decode cX11_lying 49 = .ok (.iload_n 3, 1) := by decide +kernel
theorem dX11_lying_50 : decode cX11_lying 50 = .ok (.iconst 4, 1) := by decide +kernel
theorem dX11_lying_51 : decode cX11_lying 51 = .ok (.idiv, 1) := by decide +kernel
theorem dX11_lying_52 : decode cX11_lying 52 = .ok (.iconst 4, 1) := by decide +kernel
theorem dX11_lying_53 : decode cX11_lying 53 = .ok (.irem, 1) := by decide +kernel
theorem dX11_lying_54 : decode cX11_lying 54 = .ok (.ireturn, 1) := by decide +kernel
theorem dX11_lying_55 : decode cX11_lying 55 = .ok (.iload_n 3, 1) := by decide +kernel
theorem dX11_lying_56 : decode cX11_lying 56 = .ok (.iconst 4, 1) := by decide +kernel
theorem dX11_lying_57 : decode cX11_lying 57 = .ok (.irem, 1) := by decide +kernel
theorem dX11_lying_58 : decode cX11_lying 58 = .ok (.ireturn, 1) := by decide +kernel
theorem dX11_lying_59 : decode cX11_lying 59 = .ok (.aload_n 0, 1) := by decide +kernel
theorem dX11_lying_60 : decode cX11_lying 60 = .ok (.iload_n 3, 1) := by decide +kernel
theorem dX11_lying_61 : decode cX11_lying 61 = .ok (.invokevirtual 119, 3) := by decide +kernel
theorem dX11_lying_64 : decode cX11_lying 64 = .ok (.ireturn, 1) := by decide +kernel
theorem dX11_lying_65 : decode cX11_lying 65 = .ok (.aload_n 0, 1) := by decide +kernel
theorem dX11_lying_66 : decode cX11_lying 66 = .ok (.iload_n 1, 1) := by decide +kernel
theorem dX11_lying_67 : decode cX11_lying 67 = .ok (.iconst 0, 1) := by decide +kernel
theorem dX11_lying_68 : decode cX11_lying 68 = .ok (.invokevirtual 122, 3) := by decide +kernel
theorem dX11_lying_71 : decode cX11_lying 71 = .ok (.ireturn, 1) := by decide +kernel
theorem dX11_lying_72 : decode cX11_lying 72 = .ok (.iconst (-1), 1) := by decide +kernel
theorem dX11_lying_73 : decode cX11_lying 73 = .ok (.ireturn, 1) := by decide +kernel
theorem dX11_loadAt_0 : decode cX11_loadAt 0 = .ok (.aload_n 0, 1) := by decide +kernel
theorem dX11_loadAt_1 : decode cX11_loadAt 1 = .ok (.getfield 24, 3) := by decide +kernel
theorem dX11_loadAt_4 : decode cX11_loadAt 4 = .ok (.iload_n 1, 1) := by decide +kernel
theorem dX11_loadAt_5 : decode cX11_loadAt 5 = .ok (.iconst 4, 1) := by decide +kernel
theorem dX11_loadAt_6 : decode cX11_loadAt 6 = .ok (.idiv, 1) := by decide +kernel
theorem dX11_loadAt_7 : decode cX11_loadAt 7 = .ok (.iaload, 1) := by decide +kernel
theorem dX11_loadAt_8 : decode cX11_loadAt 8 = .ok (.iconst 1, 1) := by decide +kernel
theorem dX11_loadAt_9 : decode cX11_loadAt 9 = .ok (.isub, 1) := by decide +kernel
theorem dX11_loadAt_10 : decode cX11_loadAt 10 = .ok (.iload_n 1, 1) := by decide +kernel
theorem dX11_loadAt_11 : decode cX11_loadAt 11 = .ok (.iconst 4, 1) := by decide +kernel
theorem dX11_loadAt_12 : decode cX11_loadAt 12 = .ok (.irem, 1) := by decide +kernel
theorem dX11_loadAt_13 : decode cX11_loadAt 13 = .ok (.isub, 1) := by decide +kernel
theorem dX11_loadAt_14 : decode cX11_loadAt 14 = .ok (.aload_n 0, 1) := by decide +kernel
theorem dX11_loadAt_15 : decode cX11_loadAt 15 = .ok (.getfield 34, 3) := by decide +kernel
theorem dX11_loadAt_18 : decode cX11_loadAt 18 = .ok (.getfield 126, 3) := by decide +kernel
theorem dX11_loadAt_21 : decode cX11_loadAt 21 = .ok (.imul, 1) := by decide +kernel
theorem dX11_loadAt_22 : decode cX11_loadAt 22 = .ok (.ireturn, 1) := by decide +kernel
theorem dX11_bears_0 : decode cX11_bears 0 = .ok (.iconst 0, 1) := by decide +kernel
theorem dX11_bears_1 : decode cX11_bears 1 = .ok (.aload_n 0, 1) := by decide +kernel
theorem dX11_bears_2 : decode cX11_bears 2 = .ok (.getfield 15, 3) := by decide +kernel
theorem dX11_bears_5 : decode cX11_bears 5 = .ok (.iload_n 1, 1) := by decide +kernel
theorem dX11_bears_6 : decode cX11_bears 6 = .ok (.iaload, 1) := by decide +kernel
theorem dX11_bears_7 : decode cX11_bears 7 = .ok (.iload_n 2, 1) := by decide +kernel
theorem dX11_bears_8 : decode cX11_bears 8 = .ok (.isub, 1) := by decide +kernel
theorem dX11_bears_9 : decode cX11_bears 9 = .ok (.invokestatic 129, 3) := by decide +kernel
theorem dX11_bears_12 : decode cX11_bears 12 = .ok (.istore_n 3, 1) := by decide +kernel
theorem dX11_bears_13 : decode cX11_bears 13 = .ok (.aload_n 0, 1) := by decide +kernel
theorem dX11_bears_14 : decode cX11_bears 14 = .ok (.getfield 34, 3) := by decide +kernel
theorem dX11_bears_17 : decode cX11_bears 17 = .ok (.getfield 134, 3) := by decide +kernel
theorem dX11_bears_20 : decode cX11_bears 20 = .ok (.iload_n 1, 1) := by decide +kernel
theorem dX11_bears_21 : decode cX11_bears 21 = .ok (.iaload, 1) := by decide +kernel
theorem dX11_bears_22 : decode cX11_bears 22 = .ok (.istore 4, 2) := by decide +kernel
theorem dX11_bears_24 : decode cX11_bears 24 = .ok (.iload 4, 2) := by decide +kernel
theorem dX11_bears_26 : decode cX11_bears 26 = .ok (.iconst (-1), 1) := by decide +kernel
theorem dX11_bears_27 : decode cX11_bears 27 = .ok (.if_icmp .ne 5, 3) := by decide +kernel
theorem dX11_bears_30 : decode cX11_bears 30 = .ok (.iload_n 3, 1) := by decide +kernel
theorem dX11_bears_31 : decode cX11_bears 31 = .ok (.ireturn, 1) := by decide +kernel
theorem dX11_bears_32 : decode cX11_bears 32 = .ok (.aload_n 0, 1) := by decide +kernel
theorem dX11_bears_33 : decode cX11_bears 33 = .ok (.getfield 18, 3) := by decide +kernel
theorem dX11_bears_36 : decode cX11_bears 36 = .ok (.iload 4, 2) := by decide +kernel
theorem dX11_bears_38 : decode cX11_bears 38 = .ok (.iaload, 1) := by decide +kernel
theorem dX11_bears_39 : decode cX11_bears 39 = .ok (.iconst (-1), 1) := by decide +kernel
theorem dX11_bears_40 : decode cX11_bears 40 = .ok (.if_icmp .eq 29, 3) := by decide +kernel
theorem dX11_bears_43 : decode cX11_bears 43 = .ok (.aload_n 0, 1) := by decide +kernel
theorem dX11_bears_44 : decode cX11_bears 44 = .ok (.getfield 18, 3) := by decide +kernel
theorem dX11_bears_47 : decode cX11_bears 47 = .ok (.iload 4, 2) := by decide +kernel
theorem dX11_bears_49 : decode cX11_bears 49 = .ok (.iaload, 1) := by decide +kernel
theorem dX11_bears_50 : decode cX11_bears 50 = .ok (.invokestatic 116, 3) := by decide +kernel
theorem dX11_bears_53 : decode cX11_bears 53 = .ok (.aload_n 0, 1) := by decide +kernel
theorem dX11_bears_54 : decode cX11_bears 54 = .ok (.getfield 18, 3) := by decide +kernel
theorem dX11_bears_57 : decode cX11_bears 57 = .ok (.iload_n 1, 1) := by decide +kernel
theorem dX11_bears_58 : decode cX11_bears 58 = .ok (.iaload, 1) := by decide +kernel
theorem dX11_bears_59 : decode cX11_bears 59 = .ok (.invokestatic 116, 3) := by decide +kernel
theorem dX11_bears_62 : decode cX11_bears 62 = .ok (.if_icmp .ne 7, 3) := by decide +kernel
theorem dX11_bears_65 : decode cX11_bears 65 = .ok (.iconst 1, 1) := by decide +kernel
theorem dX11_bears_66 : decode cX11_bears 66 = .ok (.goto 4, 3) := by decide +kernel
theorem dX11_bears_69 : decode cX11_bears 69 = .ok (.iconst 0, 1) := by decide +kernel
theorem dX11_bears_70 : decode cX11_bears 70 = .ok (.istore 5, 2) := by decide +kernel
theorem dX11_bears_72 : decode cX11_bears 72 = .ok (.iload 5, 2) := by decide +kernel
theorem dX11_bears_74 : decode cX11_bears 74 = .ok (.ifCond .eq 7, 3) := by decide +kernel
theorem dX11_bears_77 : decode cX11_bears 77 = .ok (.iload_n 3, 1) := by decide +kernel
theorem dX11_bears_78 : decode cX11_bears 78 = .ok (.goto 6, 3) := by decide +kernel
theorem dX11_bears_81 : decode cX11_bears 81 = .ok (.iload_n 3, 1) := by decide +kernel
theorem dX11_bears_82 : decode cX11_bears 82 = .ok (.iconst 2, 1) := by decide +kernel
theorem dX11_bears_83 : decode cX11_bears 83 = .ok (.idiv, 1) := by decide +kernel
theorem dX11_bears_84 : decode cX11_bears 84 = .ok (.ireturn, 1) := by decide +kernel
theorem dX11_weakSpot_0 : decode cX11_weakSpot 0 = .ok (.iload_n 1, 1) := by decide +kernel
theorem dX11_weakSpot_1 : decode cX11_weakSpot 1 = .ok (.bipush 16, 2) := by decide +kernel
theorem dX11_weakSpot_3 : decode cX11_weakSpot 3 = .ok (.imul, 1) := by decide +kernel
theorem dX11_weakSpot_4 : decode cX11_weakSpot 4 = .ok (.istore_n 2, 1) := by decide +kernel
theorem dX11_weakSpot_5 : decode cX11_weakSpot 5 = .ok (.iload_n 2, 1) := by decide +kernel
theorem dX11_weakSpot_6 : decode cX11_weakSpot 6 = .ok (.istore_n 3, 1) := by decide +kernel
theorem dX11_weakSpot_7 : decode cX11_weakSpot 7 = .ok (.iload_n 3, 1) := by decide +kernel
theorem dX11_weakSpot_8 : decode cX11_weakSpot 8 = .ok (.iload_n 2, 1) := by decide +kernel
theorem dX11_weakSpot_9 : decode cX11_weakSpot 9 = .ok (.bipush 16, 2) := by decide +kernel
theorem dX11_weakSpot_11 : decode cX11_weakSpot 11 = .ok (.iadd, 1) := by decide +kernel
theorem dX11_weakSpot_12 : decode cX11_weakSpot 12 = .ok (.if_icmp .ge 40, 3) := by decide +kernel
theorem dX11_weakSpot_15 : decode cX11_weakSpot 15 = .ok (.aload_n 0, 1) := by decide +kernel
theorem dX11_weakSpot_16 : decode cX11_weakSpot 16 = .ok (.getfield 21, 3) := by decide +kernel
theorem dX11_weakSpot_19 : decode cX11_weakSpot 19 = .ok (.iload_n 3, 1) := by decide +kernel
theorem dX11_weakSpot_20 : decode cX11_weakSpot 20 = .ok (.iaload, 1) := by decide +kernel
theorem dX11_weakSpot_21 : decode cX11_weakSpot 21 = .ok (.istore 4, 2) := by decide +kernel
theorem dX11_weakSpot_23 : decode cX11_weakSpot 23 = .ok (.iload 4, 2) := by decide +kernel
theorem dX11_weakSpot_25 : decode cX11_weakSpot 25 = .ok (.iconst (-1), 1) := by decide +kernel
theorem dX11_weakSpot_26 : decode cX11_weakSpot 26 = .ok (.if_icmp .eq 20, 3) := by decide +kernel
theorem dX11_weakSpot_29 : decode cX11_weakSpot 29 = .ok (.aload_n 0, 1) := by decide +kernel
theorem dX11_weakSpot_30 : decode cX11_weakSpot 30 = .ok (.iload 4, 2) := by decide +kernel
theorem dX11_weakSpot_32 : decode cX11_weakSpot 32 = .ok (.iconst 0, 1) := by decide +kernel
theorem dX11_weakSpot_33 : decode cX11_weakSpot 33 = .ok (.invokevirtual 122, 3) := by decide +kernel
theorem dX11_weakSpot_36 : decode cX11_weakSpot 36 = .ok (.aload_n 0, 1) := by decide +kernel
theorem dX11_weakSpot_37 : decode cX11_weakSpot 37 = .ok (.iload_n 3, 1) := by decide +kernel
theorem dX11_weakSpot_38 : decode cX11_weakSpot 38 = .ok (.invokevirtual 119, 3) := by decide +kernel
theorem dX11_weakSpot_41 : decode cX11_weakSpot 41 = .ok (.if_icmp .ge 5, 3) := by decide +kernel
theorem dX11_weakSpot_44 : decode cX11_weakSpot 44 = .ok (.iload_n 3, 1) := by decide +kernel
theorem dX11_weakSpot_45 : decode cX11_weakSpot 45 = .ok (.ireturn, 1) := by decide +kernel
theorem dX11_weakSpot_46 : decode cX11_weakSpot 46 = .ok (.iinc 3 1, 3) := by decide +kernel
theorem dX11_weakSpot_49 : decode cX11_weakSpot 49 = .ok (.goto (-42), 3) := by decide +kernel
theorem dX11_weakSpot_52 : decode cX11_weakSpot 52 = .ok (.iconst (-1), 1) := by decide +kernel
theorem dX11_weakSpot_53 : decode cX11_weakSpot 53 = .ok (.ireturn, 1) := by decide +kernel
theorem dX11_put_0 : decode cX11_put 0 = .ok (.aload_n 0, 1) := by decide +kernel
theorem dX11_put_1 : decode cX11_put 1 = .ok (.getfield 18, 3) := by decide +kernel
theorem dX11_put_4 : decode cX11_put 4 = .ok (.iload_n 1, 1) := by decide +kernel
theorem dX11_put_5 : decode cX11_put 5 = .ok (.iload_n 2, 1) := by decide +kernel
theorem dX11_put_6 : decode cX11_put 6 = .ok (.iastore, 1) := by decide +kernel
theorem dX11_put_7 : decode cX11_put 7 = .ok (.aload_n 0, 1) := by decide +kernel
theorem dX11_put_8 : decode cX11_put 8 = .ok (.getfield 21, 3) := by decide +kernel
theorem dX11_put_11 : decode cX11_put 11 = .ok (.iload_n 2, 1) := by decide +kernel
theorem dX11_put_12 : decode cX11_put 12 = .ok (.iload_n 1, 1) := by decide +kernel
theorem dX11_put_13 : decode cX11_put 13 = .ok (.iastore, 1) := by decide +kernel
theorem dX11_put_14 : decode cX11_put 14 = .ok (.aload_n 0, 1) := by decide +kernel
theorem dX11_put_15 : decode cX11_put 15 = .ok (.getfield 24, 3) := by decide +kernel
theorem dX11_put_18 : decode cX11_put 18 = .ok (.iload_n 2, 1) := by decide +kernel
theorem dX11_put_19 : decode cX11_put 19 = .ok (.iconst 4, 1) := by decide +kernel
theorem dX11_put_20 : decode cX11_put 20 = .ok (.idiv, 1) := by decide +kernel
theorem dX11_put_21 : decode cX11_put 21 = .ok (.dup2, 1) := by decide +kernel
theorem dX11_put_22 : decode cX11_put 22 = .ok (.iaload, 1) := by decide +kernel
theorem dX11_put_23 : decode cX11_put 23 = .ok (.iconst 1, 1) := by decide +kernel
theorem dX11_put_24 : decode cX11_put 24 = .ok (.iadd, 1) := by decide +kernel
theorem dX11_put_25 : decode cX11_put 25 = .ok (.iastore, 1) := by decide +kernel
theorem dX11_put_26 : decode cX11_put 26 = .ok (.return_, 1) := by decide +kernel
theorem dX11_lift_0 : decode cX11_lift 0 = .ok (.aload_n 0, 1) := by decide +kernel
theorem dX11_lift_1 : decode cX11_lift 1 = .ok (.getfield 18, 3) := by decide +kernel
theorem dX11_lift_4 : decode cX11_lift 4 = .ok (.iload_n 1, 1) := by decide +kernel
theorem dX11_lift_5 : decode cX11_lift 5 = .ok (.iaload, 1) := by decide +kernel
theorem dX11_lift_6 : decode cX11_lift 6 = .ok (.istore_n 2, 1) := by decide +kernel
theorem dX11_lift_7 : decode cX11_lift 7 = .ok (.iload_n 2, 1) := by decide +kernel
theorem dX11_lift_8 : decode cX11_lift 8 = .ok (.iconst (-1), 1) := by decide +kernel
theorem dX11_lift_9 : decode cX11_lift 9 = .ok (.if_icmp .eq 29, 3) := by decide +kernel
theorem dX11_lift_12 : decode cX11_lift 12 = .ok (.aload_n 0, 1) := by decide +kernel
theorem dX11_lift_13 : decode cX11_lift 13 = .ok (.getfield 18, 3) := by decide +kernel
theorem dX11_lift_16 : decode cX11_lift 16 = .ok (.iload_n 1, 1) := by decide +kernel
theorem dX11_lift_17 : decode cX11_lift 17 = .ok (.iconst (-1), 1) := by decide +kernel
theorem dX11_lift_18 : decode cX11_lift 18 = .ok (.iastore, 1) := by decide +kernel
theorem dX11_lift_19 : decode cX11_lift 19 = .ok (.aload_n 0, 1) := by decide +kernel
theorem dX11_lift_20 : decode cX11_lift 20 = .ok (.getfield 21, 3) := by decide +kernel
theorem dX11_lift_23 : decode cX11_lift 23 = .ok (.iload_n 2, 1) := by decide +kernel
theorem dX11_lift_24 : decode cX11_lift 24 = .ok (.iconst (-1), 1) := by decide +kernel
theorem dX11_lift_25 : decode cX11_lift 25 = .ok (.iastore, 1) := by decide +kernel
theorem dX11_lift_26 : decode cX11_lift 26 = .ok (.aload_n 0, 1) := by decide +kernel
theorem dX11_lift_27 : decode cX11_lift 27 = .ok (.getfield 24, 3) := by decide +kernel
theorem dX11_lift_30 : decode cX11_lift 30 = .ok (.iload_n 2, 1) := by decide +kernel
theorem dX11_lift_31 : decode cX11_lift 31 = .ok (.iconst 4, 1) := by decide +kernel
theorem dX11_lift_32 : decode cX11_lift 32 = .ok (.idiv, 1) := by decide +kernel
theorem dX11_lift_33 : decode cX11_lift 33 = .ok (.dup2, 1) := by decide +kernel
theorem dX11_lift_34 : decode cX11_lift 34 = .ok (.iaload, 1) := by decide +kernel
theorem dX11_lift_35 : decode cX11_lift 35 = .ok (.iconst 1, 1) := by decide +kernel
theorem dX11_lift_36 : decode cX11_lift 36 = .ok (.isub, 1) := by decide +kernel
theorem dX11_lift_37 : decode cX11_lift 37 = .ok (.iastore, 1) := by decide +kernel
theorem dX11_lift_38 : decode cX11_lift 38 = .ok (.return_, 1) := by decide +kernel
theorem dX11_passYear_0 : decode cX11_passYear 0 = .ok (.aload_n 0, 1) := by decide +kernel
theorem dX11_passYear_1 : decode cX11_passYear 1 = .ok (.invokevirtual 137, 3) := by decide +kernel
theorem dX11_passYear_4 : decode cX11_passYear 4 = .ok (.aload_n 0, 1) := by decide +kernel
theorem dX11_passYear_5 : decode cX11_passYear 5 = .ok (.sipush 999, 3) := by decide +kernel
theorem dX11_passYear_8 : decode cX11_passYear 8 = .ok (.aload_n 0, 1) := by decide +kernel
theorem dX11_passYear_9 : decode cX11_passYear 9 = .ok (.getfield 38, 3) := by decide +kernel
theorem dX11_passYear_12 : decode cX11_passYear 12 = .ok (.iconst 1, 1) := by decide +kernel
theorem dX11_passYear_13 : decode cX11_passYear 13 = .ok (.iadd, 1) := by decide +kernel
theorem dX11_passYear_14 : decode cX11_passYear 14 = .ok (.invokestatic 140, 3) := by decide +kernel
theorem dX11_passYear_17 : decode cX11_passYear 17 = .ok (.putfield 38, 3) := by decide +kernel
theorem dX11_passYear_20 : decode cX11_passYear 20 = .ok (.iload_n 1, 1) := by decide +kernel
theorem dX11_passYear_21 : decode cX11_passYear 21 = .ok (.ifCond .eq 7, 3) := by decide +kernel
theorem dX11_passYear_24 : decode cX11_passYear 24 = .ok (.aload_n 0, 1) := by decide +kernel
theorem dX11_passYear_25 : decode cX11_passYear 25 = .ok (.invokevirtual 143, 3) := by decide +kernel
theorem dX11_passYear_28 : decode cX11_passYear 28 = .ok (.aload_n 0, 1) := by decide +kernel
theorem dX11_passYear_29 : decode cX11_passYear 29 = .ok (.iconst 0, 1) := by decide +kernel
theorem dX11_passYear_30 : decode cX11_passYear 30 = .ok (.putfield 71, 3) := by decide +kernel
theorem dX11_passYear_33 : decode cX11_passYear 33 = .ok (.aload_n 0, 1) := by decide +kernel
theorem dX11_passYear_34 : decode cX11_passYear 34 = .ok (.invokevirtual 146, 3) := by decide +kernel
theorem dX11_passYear_37 : decode cX11_passYear 37 = .ok (.iconst 0, 1) := by decide +kernel
theorem dX11_passYear_38 : decode cX11_passYear 38 = .ok (.istore_n 2, 1) := by decide +kernel
theorem dX11_passYear_39 : decode cX11_passYear 39 = .ok (.iload_n 2, 1) := by decide +kernel
theorem dX11_passYear_40 : decode cX11_passYear 40 = .ok (.aload_n 0, 1) := by decide +kernel
theorem dX11_passYear_41 : decode cX11_passYear 41 = .ok (.getfield 34, 3) := by decide +kernel
theorem dX11_passYear_44 : decode cX11_passYear 44 = .ok (.invokevirtual 97, 3) := by decide +kernel
theorem dX11_passYear_47 : decode cX11_passYear 47 = .ok (.if_icmp .ge 35, 3) := by decide +kernel
theorem dX11_passYear_50 : decode cX11_passYear 50 = .ok (.aload_n 0, 1) := by decide +kernel
theorem dX11_passYear_51 : decode cX11_passYear 51 = .ok (.iload_n 2, 1) := by decide +kernel
theorem dX11_passYear_52 : decode cX11_passYear 52 = .ok (.invokevirtual 101, 3) := by decide +kernel
theorem dX11_passYear_55 : decode cX11_passYear 55 = .ok (.iconst 2, 1) := by decide +kernel
theorem dX11_passYear_56 : decode cX11_passYear 56 = .ok (.if_icmp .ne 20, 3) := by decide +kernel
theorem dX11_passYear_59 : decode cX11_passYear 59 = .ok (.aload_n 0, 1) := by decide +kernel
theorem dX11_passYear_60 : decode cX11_passYear 60 = .ok (.getfield 71, 3) := by decide +kernel
theorem dX11_passYear_63 : decode cX11_passYear 63 = .ok (.iconst 1, 1) := by decide +kernel
theorem dX11_passYear_64 : decode cX11_passYear 64 = .ok (.iload_n 2, 1) := by decide +kernel
theorem dX11_passYear_65 : decode cX11_passYear 65 = .ok (.ishl, 1) := by decide +kernel
theorem dX11_passYear_66 : decode cX11_passYear 66 = .ok (.iand, 1) := by decide +kernel
theorem dX11_passYear_67 : decode cX11_passYear 67 = .ok (.ifCond .ne 9, 3) := by decide +kernel
theorem dX11_passYear_70 : decode cX11_passYear 70 = .ok (.aload_n 0, 1) := by decide +kernel
theorem dX11_passYear_71 : decode cX11_passYear 71 = .ok (.iload_n 2, 1) := by decide +kernel
theorem dX11_passYear_72 : decode cX11_passYear 72 = .ok (.invokevirtual 149, 3) := by decide +kernel
theorem dX11_passYear_75 : decode cX11_passYear 75 = .ok (.pop, 1) := by decide +kernel
theorem dX11_passYear_76 : decode cX11_passYear 76 = .ok (.iinc 2 1, 3) := by decide +kernel
theorem dX11_passYear_79 : decode cX11_passYear 79 = .ok (.goto (-40), 3) := by decide +kernel
theorem dX11_passYear_82 : decode cX11_passYear 82 = .ok (.return_, 1) := by decide +kernel
theorem dX11_raise_0 : decode cX11_raise 0 = .ok (.iconst 0, 1) := by decide +kernel
theorem dX11_raise_1 : decode cX11_raise 1 = .ok (.istore_n 1, 1) := by decide +kernel
theorem dX11_raise_2 : decode cX11_raise 2 = .ok (.iload_n 1, 1) := by decide +kernel
theorem dX11_raise_3 : decode cX11_raise 3 = .ok (.aload_n 0, 1) := by decide +kernel
theorem dX11_raise_4 : decode cX11_raise 4 = .ok (.getfield 34, 3) := by decide +kernel
theorem dX11_raise_7 : decode cX11_raise 7 = .ok (.invokevirtual 97, 3) := by decide +kernel
theorem dX11_raise_10 : decode cX11_raise 10 = .ok (.if_icmp .ge 52, 3) := by decide +kernel
theorem dX11_raise_13 : decode cX11_raise 13 = .ok (.aload_n 0, 1) := by decide +kernel
theorem dX11_raise_14 : decode cX11_raise 14 = .ok (.iload_n 1, 1) := by decide +kernel
theorem dX11_raise_15 : decode cX11_raise 15 = .ok (.invokevirtual 101, 3) := by decide +kernel
theorem dX11_raise_18 : decode cX11_raise 18 = .ok (.iconst 1, 1) := by decide +kernel
theorem dX11_raise_19 : decode cX11_raise 19 = .ok (.if_icmp .ne 37, 3) := by decide +kernel
theorem dX11_raise_22 : decode cX11_raise 22 = .ok (.aload_n 0, 1) := by decide +kernel
theorem dX11_raise_23 : decode cX11_raise 23 = .ok (.getfield 15, 3) := by decide +kernel
theorem dX11_raise_26 : decode cX11_raise 26 = .ok (.iload_n 1, 1) := by decide +kernel
theorem dX11_raise_27 : decode cX11_raise 27 = .ok (.aload_n 0, 1) := by decide +kernel
theorem dX11_raise_28 : decode cX11_raise 28 = .ok (.getfield 34, 3) := by decide +kernel
theorem dX11_raise_31 : decode cX11_raise 31 = .ok (.aload_n 0, 1) := by decide +kernel
theorem dX11_raise_32 : decode cX11_raise 32 = .ok (.getfield 9, 3) := by decide +kernel
theorem dX11_raise_35 : decode cX11_raise 35 = .ok (.iload_n 1, 1) := by decide +kernel
theorem dX11_raise_36 : decode cX11_raise 36 = .ok (.iaload, 1) := by decide +kernel
theorem dX11_raise_37 : decode cX11_raise 37 = .ok (.aload_n 0, 1) := by decide +kernel
theorem dX11_raise_38 : decode cX11_raise 38 = .ok (.iload_n 1, 1) := by decide +kernel
theorem dX11_raise_39 : decode cX11_raise 39 = .ok (.invokevirtual 83, 3) := by decide +kernel
theorem dX11_raise_42 : decode cX11_raise 42 = .ok (.aload_n 0, 1) := by decide +kernel
theorem dX11_raise_43 : decode cX11_raise 43 = .ok (.getfield 15, 3) := by decide +kernel
theorem dX11_raise_46 : decode cX11_raise 46 = .ok (.iload_n 1, 1) := by decide +kernel
theorem dX11_raise_47 : decode cX11_raise 47 = .ok (.iaload, 1) := by decide +kernel
theorem dX11_raise_48 : decode cX11_raise 48 = .ok (.aload_n 0, 1) := by decide +kernel
theorem dX11_raise_49 : decode cX11_raise 49 = .ok (.getfield 38, 3) := by decide +kernel
theorem dX11_raise_52 : decode cX11_raise 52 = .ok (.invokevirtual 152, 3) := by decide +kernel
theorem dX11_raise_55 : decode cX11_raise 55 = .ok (.iastore, 1) := by decide +kernel
theorem dX11_raise_56 : decode cX11_raise 56 = .ok (.iinc 1 1, 3) := by decide +kernel
theorem dX11_raise_59 : decode cX11_raise 59 = .ok (.goto (-57), 3) := by decide +kernel
theorem dX11_raise_62 : decode cX11_raise 62 = .ok (.return_, 1) := by decide +kernel
theorem dX11_freeze_0 : decode cX11_freeze 0 = .ok (.iconst 0, 1) := by decide +kernel
theorem dX11_freeze_1 : decode cX11_freeze 1 = .ok (.istore_n 1, 1) := by decide +kernel
theorem dX11_freeze_2 : decode cX11_freeze 2 = .ok (.iload_n 1, 1) := by decide +kernel
theorem dX11_freeze_3 : decode cX11_freeze 3 = .ok (.aload_n 0, 1) := by decide +kernel
theorem dX11_freeze_4 : decode cX11_freeze 4 = .ok (.getfield 34, 3) := by decide +kernel
theorem dX11_freeze_7 : decode cX11_freeze 7 = .ok (.invokevirtual 97, 3) := by decide +kernel
theorem dX11_freeze_10 : decode cX11_freeze 10 = .ok (.if_icmp .ge 43, 3) := by decide +kernel
theorem dX11_freeze_13 : decode cX11_freeze 13 = .ok (.aload_n 0, 1) := by decide +kernel
theorem dX11_freeze_14 : decode cX11_freeze 14 = .ok (.getfield 18, 3) := by decide +kernel
theorem dX11_freeze_17 : decode cX11_freeze 17 = .ok (.iload_n 1, 1) := by decide +kernel
theorem dX11_freeze_18 : decode cX11_freeze 18 = .ok (.iaload, 1) := by decide +kernel
theorem dX11_freeze_19 : decode cX11_freeze 19 = .ok (.iconst (-1), 1) := by decide +kernel
theorem dX11_freeze_20 : decode cX11_freeze 20 = .ok (.if_icmp .eq 27, 3) := by decide +kernel
theorem dX11_freeze_23 : decode cX11_freeze 23 = .ok (.aload_n 0, 1) := by decide +kernel
theorem dX11_freeze_24 : decode cX11_freeze 24 = .ok (.getfield 15, 3) := by decide +kernel
theorem dX11_freeze_27 : decode cX11_freeze 27 = .ok (.iload_n 1, 1) := by decide +kernel
theorem dX11_freeze_28 : decode cX11_freeze 28 = .ok (.iconst 0, 1) := by decide +kernel
theorem dX11_freeze_29 : decode cX11_freeze 29 = .ok (.aload_n 0, 1) := by decide +kernel
theorem dX11_freeze_30 : decode cX11_freeze 30 = .ok (.getfield 15, 3) := by decide +kernel
theorem dX11_freeze_33 : decode cX11_freeze 33 = .ok (.iload_n 1, 1) := by decide +kernel
theorem dX11_freeze_34 : decode cX11_freeze 34 = .ok (.iaload, 1) := by decide +kernel
theorem dX11_freeze_35 : decode cX11_freeze 35 = .ok (.aload_n 0, 1) := by decide +kernel
theorem dX11_freeze_36 : decode cX11_freeze 36 = .ok (.getfield 34, 3) := by decide +kernel
theorem dX11_freeze_39 : decode cX11_freeze 39 = .ok (.getfield 156, 3) := by decide +kernel
theorem dX11_freeze_42 : decode cX11_freeze 42 = .ok (.isub, 1) := by decide +kernel
theorem dX11_freeze_43 : decode cX11_freeze 43 = .ok (.invokestatic 129, 3) := by decide +kernel
theorem dX11_freeze_46 : decode cX11_freeze 46 = .ok (.iastore, 1) := by decide +kernel
theorem dX11_freeze_47 : decode cX11_freeze 47 = .ok (.iinc 1 1, 3) := by decide +kernel
theorem dX11_freeze_50 : decode cX11_freeze 50 = .ok (.goto (-48), 3) := by decide +kernel
theorem dX11_freeze_53 : decode cX11_freeze 53 = .ok (.return_, 1) := by decide +kernel
theorem dX11_fall_0 : decode cX11_fall 0 = .ok (.iconst 0, 1) := by decide +kernel
theorem dX11_fall_1 : decode cX11_fall 1 = .ok (.istore_n 1, 1) := by decide +kernel
theorem dX11_fall_2 : decode cX11_fall 2 = .ok (.iconst 0, 1) := by decide +kernel
theorem dX11_fall_3 : decode cX11_fall 3 = .ok (.istore_n 2, 1) := by decide +kernel
theorem dX11_fall_4 : decode cX11_fall 4 = .ok (.iload_n 2, 1) := by decide +kernel
theorem dX11_fall_5 : decode cX11_fall 5 = .ok (.bipush 36, 2) := by decide +kernel
theorem dX11_fall_7 : decode cX11_fall 7 = .ok (.if_icmp .ge 44, 3) := by decide +kernel
theorem dX11_fall_10 : decode cX11_fall 10 = .ok (.iload_n 1, 1) := by decide +kernel
theorem dX11_fall_11 : decode cX11_fall 11 = .ok (.aload_n 0, 1) := by decide +kernel
theorem dX11_fall_12 : decode cX11_fall 12 = .ok (.getfield 34, 3) := by decide +kernel
theorem dX11_fall_15 : decode cX11_fall 15 = .ok (.invokevirtual 107, 3) := by decide +kernel
theorem dX11_fall_18 : decode cX11_fall 18 = .ok (.if_icmp .ge 33, 3) := by decide +kernel
theorem dX11_fall_21 : decode cX11_fall 21 = .ok (.aload_n 0, 1) := by decide +kernel
theorem dX11_fall_22 : decode cX11_fall 22 = .ok (.iload_n 1, 1) := by decide +kernel
theorem dX11_fall_23 : decode cX11_fall 23 = .ok (.invokevirtual 159, 3) := by decide +kernel
theorem dX11_fall_26 : decode cX11_fall 26 = .ok (.istore_n 3, 1) := by decide +kernel
theorem dX11_fall_27 : decode cX11_fall 27 = .ok (.iload_n 3, 1) := by decide +kernel
theorem dX11_fall_28 : decode cX11_fall 28 = .ok (.iconst (-1), 1) := by decide +kernel
theorem dX11_fall_29 : decode cX11_fall 29 = .ok (.if_icmp .ne 9, 3) := by decide +kernel
theorem dX11_fall_32 : decode cX11_fall 32 = .ok (.iinc 1 1, 3) := by decide +kernel
theorem dX11_fall_35 : decode cX11_fall 35 = .ok (.goto 10, 3) := by decide +kernel
theorem dX11_fall_38 : decode cX11_fall 38 = .ok (.aload_n 0, 1) := by decide +kernel
theorem dX11_fall_39 : decode cX11_fall 39 = .ok (.iload_n 3, 1) := by decide +kernel
theorem dX11_fall_40 : decode cX11_fall 40 = .ok (.invokevirtual 162, 3) := by decide +kernel
theorem dX11_fall_43 : decode cX11_fall 43 = .ok (.iconst 0, 1) := by decide +kernel
theorem dX11_fall_44 : decode cX11_fall 44 = .ok (.istore_n 1, 1) := by decide +kernel
theorem dX11_fall_45 : decode cX11_fall 45 = .ok (.iinc 2 1, 3) := by decide +kernel
theorem dX11_fall_48 : decode cX11_fall 48 = .ok (.goto (-44), 3) := by decide +kernel
theorem dX11_fall_51 : decode cX11_fall 51 = .ok (.return_, 1) := by decide +kernel
theorem dX11_dropFrom_0 : decode cX11_dropFrom 0 = .ok (.iload_n 1, 1) := by decide +kernel
theorem dX11_dropFrom_1 : decode cX11_dropFrom 1 = .ok (.iconst 4, 1) := by decide +kernel
theorem dX11_dropFrom_2 : decode cX11_dropFrom 2 = .ok (.idiv, 1) := by decide +kernel
theorem dX11_dropFrom_3 : decode cX11_dropFrom 3 = .ok (.iconst 4, 1) := by decide +kernel
theorem dX11_dropFrom_4 : decode cX11_dropFrom 4 = .ok (.imul, 1) := by decide +kernel
theorem dX11_dropFrom_5 : decode cX11_dropFrom 5 = .ok (.aload_n 0, 1) := by decide +kernel
theorem dX11_dropFrom_6 : decode cX11_dropFrom 6 = .ok (.getfield 24, 3) := by decide +kernel
theorem dX11_dropFrom_9 : decode cX11_dropFrom 9 = .ok (.iload_n 1, 1) := by decide +kernel
theorem dX11_dropFrom_10 : decode cX11_dropFrom 10 = .ok (.iconst 4, 1) := by decide +kernel
theorem dX11_dropFrom_11 : decode cX11_dropFrom 11 = .ok (.idiv, 1) := by decide +kernel
theorem dX11_dropFrom_12 : decode cX11_dropFrom 12 = .ok (.iaload, 1) := by decide +kernel
theorem dX11_dropFrom_13 : decode cX11_dropFrom 13 = .ok (.iadd, 1) := by decide +kernel
theorem dX11_dropFrom_14 : decode cX11_dropFrom 14 = .ok (.istore_n 2, 1) := by decide +kernel
theorem dX11_dropFrom_15 : decode cX11_dropFrom 15 = .ok (.iload_n 1, 1) := by decide +kernel
theorem dX11_dropFrom_16 : decode cX11_dropFrom 16 = .ok (.istore_n 3, 1) := by decide +kernel
theorem dX11_dropFrom_17 : decode cX11_dropFrom 17 = .ok (.iload_n 3, 1) := by decide +kernel
theorem dX11_dropFrom_18 : decode cX11_dropFrom 18 = .ok (.iload_n 2, 1) := by decide +kernel
theorem dX11_dropFrom_19 : decode cX11_dropFrom 19 = .ok (.if_icmp .ge 63, 3) := by decide +kernel
theorem dX11_dropFrom_22 : decode cX11_dropFrom 22 = .ok (.aload_n 0, 1) := by decide +kernel
theorem dX11_dropFrom_23 : decode cX11_dropFrom 23 = .ok (.getfield 21, 3) := by decide +kernel
theorem dX11_dropFrom_26 : decode cX11_dropFrom 26 = .ok (.iload_n 3, 1) := by decide +kernel
theorem dX11_dropFrom_27 : decode cX11_dropFrom 27 = .ok (.iaload, 1) := by decide +kernel
theorem dX11_dropFrom_28 : decode cX11_dropFrom 28 = .ok (.istore 4, 2) := by decide +kernel
theorem dX11_dropFrom_30 : decode cX11_dropFrom 30 = .ok (.iload 4, 2) := by decide +kernel
theorem dX11_dropFrom_32 : decode cX11_dropFrom 32 = .ok (.iconst (-1), 1) := by decide +kernel
theorem dX11_dropFrom_33 : decode cX11_dropFrom 33 = .ok (.if_icmp .eq 43, 3) := by decide +kernel
theorem dX11_dropFrom_36 : decode cX11_dropFrom 36 = .ok (.aload_n 0, 1) := by decide +kernel
theorem dX11_dropFrom_37 : decode cX11_dropFrom 37 = .ok (.iload 4, 2) := by decide +kernel
theorem dX11_dropFrom_39 : decode cX11_dropFrom 39 = .ok (.invokevirtual 166, 3) := by decide +kernel
theorem dX11_dropFrom_42 : decode cX11_dropFrom 42 = .ok (.aload_n 0, 1) := by decide +kernel
theorem dX11_dropFrom_43 : decode cX11_dropFrom 43 = .ok (.dup, 1) := by decide +kernel
theorem dX11_dropFrom_44 : decode cX11_dropFrom 44 = .ok (.getfield 71, 3) := by decide +kernel
theorem dX11_dropFrom_47 : decode cX11_dropFrom 47 = .ok (.iconst 1, 1) := by decide +kernel
theorem dX11_dropFrom_48 : decode cX11_dropFrom 48 = .ok (.iload 4, 2) := by decide +kernel
theorem dX11_dropFrom_50 : decode cX11_dropFrom 50 = .ok (.ishl, 1) := by decide +kernel
theorem dX11_dropFrom_51 : decode cX11_dropFrom 51 = .ok (.ior, 1) := by decide +kernel
theorem dX11_dropFrom_52 : decode cX11_dropFrom 52 = .ok (.putfield 71, 3) := by decide +kernel
theorem dX11_dropFrom_55 : decode cX11_dropFrom 55 = .ok (.aload_n 0, 1) := by decide +kernel
theorem dX11_dropFrom_56 : decode cX11_dropFrom 56 = .ok (.dup, 1) := by decide +kernel
theorem dX11_dropFrom_57 : decode cX11_dropFrom 57 = .ok (.getfield 74, 3) := by decide +kernel
theorem dX11_dropFrom_60 : decode cX11_dropFrom 60 = .ok (.iconst 1, 1) := by decide +kernel
theorem dX11_dropFrom_61 : decode cX11_dropFrom 61 = .ok (.iadd, 1) := by decide +kernel
theorem dX11_dropFrom_62 : decode cX11_dropFrom 62 = .ok (.putfield 74, 3) := by decide +kernel
theorem dX11_dropFrom_65 : decode cX11_dropFrom 65 = .ok (.aload_n 0, 1) := by decide +kernel
theorem dX11_dropFrom_66 : decode cX11_dropFrom 66 = .ok (.iload 4, 2) := by decide +kernel
theorem dX11_dropFrom_68 : decode cX11_dropFrom 68 = .ok (.iload_n 3, 1) := by decide +kernel
theorem dX11_dropFrom_69 : decode cX11_dropFrom 69 = .ok (.invokestatic 116, 3) := by decide +kernel
theorem dX11_dropFrom_72 : decode cX11_dropFrom 72 = .ok (.iconst 0, 1) := by decide +kernel
theorem dX11_dropFrom_73 : decode cX11_dropFrom 73 = .ok (.invokevirtual 169, 3) := by decide +kernel
theorem dX11_dropFrom_76 : decode cX11_dropFrom 76 = .ok (.iinc 3 1, 3) := by decide +kernel
theorem dX11_dropFrom_79 : decode cX11_dropFrom 79 = .ok (.goto (-62), 3) := by decide +kernel
theorem dX11_dropFrom_82 : decode cX11_dropFrom 82 = .ok (.return_, 1) := by decide +kernel
theorem dX11_pullOut_0 : decode cX11_pullOut 0 = .ok (.aload_n 0, 1) := by decide +kernel
theorem dX11_pullOut_1 : decode cX11_pullOut 1 = .ok (.aload_n 0, 1) := by decide +kernel
theorem dX11_pullOut_2 : decode cX11_pullOut 2 = .ok (.getfield 18, 3) := by decide +kernel
theorem dX11_pullOut_5 : decode cX11_pullOut 5 = .ok (.iload_n 1, 1) := by decide +kernel
theorem dX11_pullOut_6 : decode cX11_pullOut 6 = .ok (.iaload, 1) := by decide +kernel
theorem dX11_pullOut_7 : decode cX11_pullOut 7 = .ok (.invokevirtual 162, 3) := by decide +kernel
theorem dX11_pullOut_10 : decode cX11_pullOut 10 = .ok (.aload_n 0, 1) := by decide +kernel
theorem dX11_pullOut_11 : decode cX11_pullOut 11 = .ok (.invokevirtual 146, 3) := by decide +kernel
theorem dX11_pullOut_14 : decode cX11_pullOut 14 = .ok (.return_, 1) := by decide +kernel
theorem dX11_buildIn_0 : decode cX11_buildIn 0 = .ok (.iconst 0, 1) := by decide +kernel
theorem dX11_buildIn_1 : decode cX11_buildIn 1 = .ok (.istore_n 2, 1) := by decide +kernel
theorem dX11_buildIn_2 : decode cX11_buildIn 2 = .ok (.iload_n 2, 1) := by decide +kernel
theorem dX11_buildIn_3 : decode cX11_buildIn 3 = .ok (.aload_n 0, 1) := by decide +kernel
theorem dX11_buildIn_4 : decode cX11_buildIn 4 = .ok (.getfield 34, 3) := by decide +kernel
theorem dX11_buildIn_7 : decode cX11_buildIn 7 = .ok (.invokevirtual 107, 3) := by decide +kernel
theorem dX11_buildIn_10 : decode cX11_buildIn 10 = .ok (.if_icmp .ge 77, 3) := by decide +kernel
theorem dX11_buildIn_13 : decode cX11_buildIn 13 = .ok (.aload_n 0, 1) := by decide +kernel
theorem dX11_buildIn_14 : decode cX11_buildIn 14 = .ok (.iload_n 2, 1) := by decide +kernel
theorem dX11_buildIn_15 : decode cX11_buildIn 15 = .ok (.invokevirtual 173, 3) := by decide +kernel
theorem dX11_buildIn_18 : decode cX11_buildIn 18 = .ok (.istore_n 3, 1) := by decide +kernel
theorem dX11_buildIn_19 : decode cX11_buildIn 19 = .ok (.iload_n 3, 1) := by decide +kernel
theorem dX11_buildIn_20 : decode cX11_buildIn 20 = .ok (.iconst (-1), 1) := by decide +kernel
theorem dX11_buildIn_21 : decode cX11_buildIn 21 = .ok (.if_icmp .eq 60, 3) := by decide +kernel
theorem dX11_buildIn_24 : decode cX11_buildIn 24 = .ok (.aload_n 0, 1) := by decide +kernel
theorem dX11_buildIn_25 : decode cX11_buildIn 25 = .ok (.iload_n 1, 1) := by decide +kernel
theorem dX11_buildIn_26 : decode cX11_buildIn 26 = .ok (.iload_n 3, 1) := by decide +kernel
theorem dX11_buildIn_27 : decode cX11_buildIn 27 = .ok (.invokevirtual 176, 3) := by decide +kernel
theorem dX11_buildIn_30 : decode cX11_buildIn 30 = .ok (.ifCond .eq 51, 3) := by decide +kernel
theorem dX11_buildIn_33 : decode cX11_buildIn 33 = .ok (.aload_n 0, 1) := by decide +kernel
theorem dX11_buildIn_34 : decode cX11_buildIn 34 = .ok (.iload_n 1, 1) := by decide +kernel
theorem dX11_buildIn_35 : decode cX11_buildIn 35 = .ok (.iload_n 3, 1) := by decide +kernel
theorem dX11_buildIn_36 : decode cX11_buildIn 36 = .ok (.invokevirtual 180, 3) := by decide +kernel
theorem dX11_buildIn_39 : decode cX11_buildIn 39 = .ok (.ifCond .eq 42, 3) := by decide +kernel
theorem dX11_buildIn_42 : decode cX11_buildIn 42 = .ok (.aload_n 0, 1) := by decide +kernel
theorem dX11_buildIn_43 : decode cX11_buildIn 43 = .ok (.iload_n 1, 1) := by decide +kernel
theorem dX11_buildIn_44 : decode cX11_buildIn 44 = .ok (.iload_n 3, 1) := by decide +kernel
theorem dX11_buildIn_45 : decode cX11_buildIn 45 = .ok (.invokevirtual 183, 3) := by decide +kernel
theorem dX11_buildIn_48 : decode cX11_buildIn 48 = .ok (.aload_n 0, 1) := by decide +kernel
theorem dX11_buildIn_49 : decode cX11_buildIn 49 = .ok (.iload_n 2, 1) := by decide +kernel
theorem dX11_buildIn_50 : decode cX11_buildIn 50 = .ok (.invokevirtual 159, 3) := by decide +kernel
theorem dX11_buildIn_53 : decode cX11_buildIn 53 = .ok (.iconst (-1), 1) := by decide +kernel
theorem dX11_buildIn_54 : decode cX11_buildIn 54 = .ok (.if_icmp .ne 22, 3) := by decide +kernel
theorem dX11_buildIn_57 : decode cX11_buildIn 57 = .ok (.aload_n 0, 1) := by decide +kernel
theorem dX11_buildIn_58 : decode cX11_buildIn 58 = .ok (.dup, 1) := by decide +kernel
theorem dX11_buildIn_59 : decode cX11_buildIn 59 = .ok (.getfield 77, 3) := by decide +kernel
theorem dX11_buildIn_62 : decode cX11_buildIn 62 = .ok (.iconst 1, 1) := by decide +kernel
theorem dX11_buildIn_63 : decode cX11_buildIn 63 = .ok (.iadd, 1) := by decide +kernel
theorem dX11_buildIn_64 : decode cX11_buildIn 64 = .ok (.putfield 77, 3) := by decide +kernel
theorem dX11_buildIn_67 : decode cX11_buildIn 67 = .ok (.aload_n 0, 1) := by decide +kernel
theorem dX11_buildIn_68 : decode cX11_buildIn 68 = .ok (.iload_n 1, 1) := by decide +kernel
theorem dX11_buildIn_69 : decode cX11_buildIn 69 = .ok (.iload_n 2, 1) := by decide +kernel
theorem dX11_buildIn_70 : decode cX11_buildIn 70 = .ok (.iconst 1, 1) := by decide +kernel
theorem dX11_buildIn_71 : decode cX11_buildIn 71 = .ok (.invokevirtual 169, 3) := by decide +kernel
theorem dX11_buildIn_74 : decode cX11_buildIn 74 = .ok (.iconst 1, 1) := by decide +kernel
theorem dX11_buildIn_75 : decode cX11_buildIn 75 = .ok (.ireturn, 1) := by decide +kernel
theorem dX11_buildIn_76 : decode cX11_buildIn 76 = .ok (.aload_n 0, 1) := by decide +kernel
theorem dX11_buildIn_77 : decode cX11_buildIn 77 = .ok (.iload_n 1, 1) := by decide +kernel
theorem dX11_buildIn_78 : decode cX11_buildIn 78 = .ok (.invokevirtual 166, 3) := by decide +kernel
theorem dX11_buildIn_81 : decode cX11_buildIn 81 = .ok (.iinc 2 1, 3) := by decide +kernel
theorem dX11_buildIn_84 : decode cX11_buildIn 84 = .ok (.goto (-82), 3) := by decide +kernel
theorem dX11_buildIn_87 : decode cX11_buildIn 87 = .ok (.iconst 0, 1) := by decide +kernel
theorem dX11_buildIn_88 : decode cX11_buildIn 88 = .ok (.ireturn, 1) := by decide +kernel
theorem dX11_freeSpot_0 : decode cX11_freeSpot 0 = .ok (.iload_n 1, 1) := by decide +kernel
theorem dX11_freeSpot_1 : decode cX11_freeSpot 1 = .ok (.iconst 4, 1) := by decide +kernel
theorem dX11_freeSpot_2 : decode cX11_freeSpot 2 = .ok (.imul, 1) := by decide +kernel
theorem dX11_freeSpot_3 : decode cX11_freeSpot 3 = .ok (.istore_n 2, 1) := by decide +kernel
theorem dX11_freeSpot_4 : decode cX11_freeSpot 4 = .ok (.iload_n 2, 1) := by decide +kernel
theorem dX11_freeSpot_5 : decode cX11_freeSpot 5 = .ok (.iconst 1, 1) := by decide +kernel
theorem dX11_freeSpot_6 : decode cX11_freeSpot 6 = .ok (.iadd, 1) := by decide +kernel
theorem dX11_freeSpot_7 : decode cX11_freeSpot 7 = .ok (.istore_n 3, 1) := by decide +kernel
theorem dX11_freeSpot_8 : decode cX11_freeSpot 8 = .ok (.iload_n 3, 1) := by decide +kernel
theorem dX11_freeSpot_9 : decode cX11_freeSpot 9 = .ok (.iload_n 1, 1) := by decide +kernel
theorem dX11_freeSpot_10 : decode cX11_freeSpot 10 = .ok (.iconst 4, 1) := by decide +kernel
theorem dX11_freeSpot_11 : decode cX11_freeSpot 11 = .ok (.imul, 1) := by decide +kernel
theorem dX11_freeSpot_12 : decode cX11_freeSpot 12 = .ok (.aload_n 0, 1) := by decide +kernel
theorem dX11_freeSpot_13 : decode cX11_freeSpot 13 = .ok (.getfield 34, 3) := by decide +kernel
theorem dX11_freeSpot_16 : decode cX11_freeSpot 16 = .ok (.getfield 104, 3) := by decide +kernel
theorem dX11_freeSpot_19 : decode cX11_freeSpot 19 = .ok (.iload_n 1, 1) := by decide +kernel
theorem dX11_freeSpot_20 : decode cX11_freeSpot 20 = .ok (.iaload, 1) := by decide +kernel
theorem dX11_freeSpot_21 : decode cX11_freeSpot 21 = .ok (.iadd, 1) := by decide +kernel
theorem dX11_freeSpot_22 : decode cX11_freeSpot 22 = .ok (.if_icmp .ge 30, 3) := by decide +kernel
theorem dX11_freeSpot_25 : decode cX11_freeSpot 25 = .ok (.aload_n 0, 1) := by decide +kernel
theorem dX11_freeSpot_26 : decode cX11_freeSpot 26 = .ok (.getfield 24, 3) := by decide +kernel
theorem dX11_freeSpot_29 : decode cX11_freeSpot 29 = .ok (.iload_n 3, 1) := by decide +kernel
theorem dX11_freeSpot_30 : decode cX11_freeSpot 30 = .ok (.iaload, 1) := by decide +kernel
theorem dX11_freeSpot_31 : decode cX11_freeSpot 31 = .ok (.aload_n 0, 1) := by decide +kernel
theorem dX11_freeSpot_32 : decode cX11_freeSpot 32 = .ok (.getfield 24, 3) := by decide +kernel
theorem dX11_freeSpot_35 : decode cX11_freeSpot 35 = .ok (.iload_n 2, 1) := by decide +kernel
theorem dX11_freeSpot_36 : decode cX11_freeSpot 36 = .ok (.iaload, 1) := by decide +kernel
theorem dX11_freeSpot_37 : decode cX11_freeSpot 37 = .ok (.if_icmp .ge 7, 3) := by decide +kernel
theorem dX11_freeSpot_40 : decode cX11_freeSpot 40 = .ok (.iload_n 3, 1) := by decide +kernel
theorem dX11_freeSpot_41 : decode cX11_freeSpot 41 = .ok (.goto 4, 3) := by decide +kernel
theorem dX11_freeSpot_44 : decode cX11_freeSpot 44 = .ok (.iload_n 2, 1) := by decide +kernel
theorem dX11_freeSpot_45 : decode cX11_freeSpot 45 = .ok (.istore_n 2, 1) := by decide +kernel
theorem dX11_freeSpot_46 : decode cX11_freeSpot 46 = .ok (.iinc 3 1, 3) := by decide +kernel
theorem dX11_freeSpot_49 : decode cX11_freeSpot 49 = .ok (.goto (-41), 3) := by decide +kernel
theorem dX11_freeSpot_52 : decode cX11_freeSpot 52 = .ok (.aload_n 0, 1) := by decide +kernel
theorem dX11_freeSpot_53 : decode cX11_freeSpot 53 = .ok (.getfield 24, 3) := by decide +kernel
theorem dX11_freeSpot_56 : decode cX11_freeSpot 56 = .ok (.iload_n 2, 1) := by decide +kernel
theorem dX11_freeSpot_57 : decode cX11_freeSpot 57 = .ok (.iaload, 1) := by decide +kernel
theorem dX11_freeSpot_58 : decode cX11_freeSpot 58 = .ok (.aload_n 0, 1) := by decide +kernel
theorem dX11_freeSpot_59 : decode cX11_freeSpot 59 = .ok (.getfield 34, 3) := by decide +kernel
theorem dX11_freeSpot_62 : decode cX11_freeSpot 62 = .ok (.getfield 113, 3) := by decide +kernel
theorem dX11_freeSpot_65 : decode cX11_freeSpot 65 = .ok (.iload_n 1, 1) := by decide +kernel
theorem dX11_freeSpot_66 : decode cX11_freeSpot 66 = .ok (.iaload, 1) := by decide +kernel
theorem dX11_freeSpot_67 : decode cX11_freeSpot 67 = .ok (.if_icmp .ge 16, 3) := by decide +kernel
theorem dX11_freeSpot_70 : decode cX11_freeSpot 70 = .ok (.iload_n 2, 1) := by decide +kernel
theorem dX11_freeSpot_71 : decode cX11_freeSpot 71 = .ok (.iconst 4, 1) := by decide +kernel
theorem dX11_freeSpot_72 : decode cX11_freeSpot 72 = .ok (.imul, 1) := by decide +kernel
theorem dX11_freeSpot_73 : decode cX11_freeSpot 73 = .ok (.aload_n 0, 1) := by decide +kernel
theorem dX11_freeSpot_74 : decode cX11_freeSpot 74 = .ok (.getfield 24, 3) := by decide +kernel
theorem dX11_freeSpot_77 : decode cX11_freeSpot 77 = .ok (.iload_n 2, 1) := by decide +kernel
theorem dX11_freeSpot_78 : decode cX11_freeSpot 78 = .ok (.iaload, 1) := by decide +kernel
theorem dX11_freeSpot_79 : decode cX11_freeSpot 79 = .ok (.iadd, 1) := by decide +kernel
theorem dX11_freeSpot_80 : decode cX11_freeSpot 80 = .ok (.goto 4, 3) := by decide +kernel
theorem dX11_freeSpot_83 : decode cX11_freeSpot 83 = .ok (.iconst (-1), 1) := by decide +kernel
theorem dX11_freeSpot_84 : decode cX11_freeSpot 84 = .ok (.ireturn, 1) := by decide +kernel
theorem dX11_leftOf_0 : decode cX11_leftOf 0 = .ok (.iload_n 1, 1) := by decide +kernel
theorem dX11_leftOf_1 : decode cX11_leftOf 1 = .ok (.bipush 16, 2) := by decide +kernel
theorem dX11_leftOf_3 : decode cX11_leftOf 3 = .ok (.irem, 1) := by decide +kernel
theorem dX11_leftOf_4 : decode cX11_leftOf 4 = .ok (.iconst 4, 1) := by decide +kernel
theorem dX11_leftOf_5 : decode cX11_leftOf 5 = .ok (.if_icmp .lt 14, 3) := by decide +kernel
theorem dX11_leftOf_8 : decode cX11_leftOf 8 = .ok (.aload_n 0, 1) := by decide +kernel
theorem dX11_leftOf_9 : decode cX11_leftOf 9 = .ok (.getfield 21, 3) := by decide +kernel
theorem dX11_leftOf_12 : decode cX11_leftOf 12 = .ok (.iload_n 1, 1) := by decide +kernel
theorem dX11_leftOf_13 : decode cX11_leftOf 13 = .ok (.iconst 4, 1) := by decide +kernel
theorem dX11_leftOf_14 : decode cX11_leftOf 14 = .ok (.isub, 1) := by decide +kernel
theorem dX11_leftOf_15 : decode cX11_leftOf 15 = .ok (.iaload, 1) := by decide +kernel
theorem dX11_leftOf_16 : decode cX11_leftOf 16 = .ok (.goto 4, 3) := by decide +kernel
theorem dX11_leftOf_19 : decode cX11_leftOf 19 = .ok (.iconst (-1), 1) := by decide +kernel
theorem dX11_leftOf_20 : decode cX11_leftOf 20 = .ok (.ireturn, 1) := by decide +kernel
theorem dX11_rightOf_0 : decode cX11_rightOf 0 = .ok (.iload_n 1, 1) := by decide +kernel
theorem dX11_rightOf_1 : decode cX11_rightOf 1 = .ok (.bipush 16, 2) := by decide +kernel
theorem dX11_rightOf_3 : decode cX11_rightOf 3 = .ok (.irem, 1) := by decide +kernel
theorem dX11_rightOf_4 : decode cX11_rightOf 4 = .ok (.bipush 12, 2) := by decide +kernel
theorem dX11_rightOf_6 : decode cX11_rightOf 6 = .ok (.if_icmp .ge 14, 3) := by decide +kernel
theorem dX11_rightOf_9 : decode cX11_rightOf 9 = .ok (.aload_n 0, 1) := by decide +kernel
theorem dX11_rightOf_10 : decode cX11_rightOf 10 = .ok (.getfield 21, 3) := by decide +kernel
theorem dX11_rightOf_13 : decode cX11_rightOf 13 = .ok (.iload_n 1, 1) := by decide +kernel
theorem dX11_rightOf_14 : decode cX11_rightOf 14 = .ok (.iconst 4, 1) := by decide +kernel
theorem dX11_rightOf_15 : decode cX11_rightOf 15 = .ok (.iadd, 1) := by decide +kernel
theorem dX11_rightOf_16 : decode cX11_rightOf 16 = .ok (.iaload, 1) := by decide +kernel
theorem dX11_rightOf_17 : decode cX11_rightOf 17 = .ok (.goto 4, 3) := by decide +kernel
theorem dX11_rightOf_20 : decode cX11_rightOf 20 = .ok (.iconst (-1), 1) := by decide +kernel
theorem dX11_rightOf_21 : decode cX11_rightOf 21 = .ok (.ireturn, 1) := by decide +kernel
theorem dX11_isPeaceful_0 : decode cX11_isPeaceful 0 = .ok (.aload_n 0, 1) := by decide +kernel
theorem dX11_isPeaceful_1 : decode cX11_isPeaceful 1 = .ok (.iload_n 2, 1) := by decide +kernel
theorem dX11_isPeaceful_2 : decode cX11_isPeaceful 2 = .ok (.invokevirtual 187, 3) := by decide +kernel
theorem dX11_isPeaceful_5 : decode cX11_isPeaceful 5 = .ok (.istore_n 3, 1) := by decide +kernel
theorem dX11_isPeaceful_6 : decode cX11_isPeaceful 6 = .ok (.aload_n 0, 1) := by decide +kernel
theorem dX11_isPeaceful_7 : decode cX11_isPeaceful 7 = .ok (.iload_n 2, 1) := by decide +kernel
theorem dX11_isPeaceful_8 : decode cX11_isPeaceful 8 = .ok (.invokevirtual 190, 3) := by decide +kernel
theorem dX11_isPeaceful_11 : decode cX11_isPeaceful 11 = .ok (.istore 4, 2) := by decide +kernel
theorem dX11_isPeaceful_13 : decode cX11_isPeaceful 13 = .ok (.iload_n 3, 1) := by decide +kernel
theorem dX11_isPeaceful_14 : decode cX11_isPeaceful 14 = .ok (.iconst (-1), 1) := by decide +kernel
theorem dX11_isPeaceful_15 : decode cX11_isPeaceful 15 = .ok (.if_icmp .eq 9, 3) := by decide +kernel
theorem dX11_isPeaceful_18 : decode cX11_isPeaceful 18 = .ok (.iconst 1, 1) := by decide +kernel
theorem dX11_isPeaceful_19 : decode cX11_isPeaceful 19 = .ok (.iload_n 3, 1) := by decide +kernel
theorem dX11_isPeaceful_20 : decode cX11_isPeaceful 20 = .ok (.ishl, 1) := by decide +kernel
theorem dX11_isPeaceful_21 : decode cX11_isPeaceful 21 = .ok (.goto 4, 3) := by decide +kernel
theorem dX11_isPeaceful_24 : decode cX11_isPeaceful 24 = .ok (.iconst 0, 1) := by decide +kernel
theorem dX11_isPeaceful_25 : decode cX11_isPeaceful 25 = .ok (.iload 4, 2) := by decide +kernel
theorem dX11_isPeaceful_27 : decode cX11_isPeaceful 27 = .ok (.iconst (-1), 1) := by decide +kernel
theorem dX11_isPeaceful_28 : decode cX11_isPeaceful 28 = .ok (.if_icmp .eq 10, 3) := by decide +kernel
theorem dX11_isPeaceful_31 : decode cX11_isPeaceful 31 = .ok (.iconst 1, 1) := by decide +kernel
theorem dX11_isPeaceful_32 : decode cX11_isPeaceful 32 = .ok (.iload 4, 2) := by decide +kernel
theorem dX11_isPeaceful_34 : decode cX11_isPeaceful 34 = .ok (.ishl, 1) := by decide +kernel
theorem dX11_isPeaceful_35 : decode cX11_isPeaceful 35 = .ok (.goto 4, 3) := by decide +kernel
theorem dX11_isPeaceful_38 : decode cX11_isPeaceful 38 = .ok (.iconst 0, 1) := by decide +kernel
theorem dX11_isPeaceful_39 : decode cX11_isPeaceful 39 = .ok (.ior, 1) := by decide +kernel
theorem dX11_isPeaceful_40 : decode cX11_isPeaceful 40 = .ok (.istore 5, 2) := by decide +kernel
theorem dX11_isPeaceful_42 : decode cX11_isPeaceful 42 = .ok (.iload 5, 2) := by decide +kernel
theorem dX11_isPeaceful_44 : decode cX11_isPeaceful 44 = .ok (.ifCond .eq 21, 3) := by decide +kernel
theorem dX11_isPeaceful_47 : decode cX11_isPeaceful 47 = .ok (.iload 5, 2) := by decide +kernel
theorem dX11_isPeaceful_49 : decode cX11_isPeaceful 49 = .ok (.aload_n 0, 1) := by decide +kernel
theorem dX11_isPeaceful_50 : decode cX11_isPeaceful 50 = .ok (.getfield 34, 3) := by decide +kernel
theorem dX11_isPeaceful_53 : decode cX11_isPeaceful 53 = .ok (.iload_n 1, 1) := by decide +kernel
theorem dX11_isPeaceful_54 : decode cX11_isPeaceful 54 = .ok (.aload_n 0, 1) := by decide +kernel
theorem dX11_isPeaceful_55 : decode cX11_isPeaceful 55 = .ok (.getfield 42, 3) := by decide +kernel
theorem dX11_isPeaceful_58 : decode cX11_isPeaceful 58 = .ok (.invokevirtual 193, 3) := by decide +kernel
theorem dX11_isPeaceful_61 : decode cX11_isPeaceful 61 = .ok (.iand, 1) := by decide +kernel
theorem dX11_isPeaceful_62 : decode cX11_isPeaceful 62 = .ok (.ifCond .ne 7, 3) := by decide +kernel
theorem dX11_isPeaceful_65 : decode cX11_isPeaceful 65 = .ok (.iconst 1, 1) := by decide +kernel
theorem dX11_isPeaceful_66 : decode cX11_isPeaceful 66 = .ok (.goto 4, 3) := by decide +kernel
theorem dX11_isPeaceful_69 : decode cX11_isPeaceful 69 = .ok (.iconst 0, 1) := by decide +kernel
theorem dX11_isPeaceful_70 : decode cX11_isPeaceful 70 = .ok (.ireturn, 1) := by decide +kernel
theorem dX11_mayLie_0 : decode cX11_mayLie 0 = .ok (.aload_n 0, 1) := by decide +kernel
theorem dX11_mayLie_1 : decode cX11_mayLie 1 = .ok (.getfield 34, 3) := by decide +kernel
theorem dX11_mayLie_4 : decode cX11_mayLie 4 = .ok (.getfield 196, 3) := by decide +kernel
theorem dX11_mayLie_7 : decode cX11_mayLie 7 = .ok (.getfield 200, 3) := by decide +kernel
theorem dX11_mayLie_10 : decode cX11_mayLie 10 = .ok (.ifCond .ne 5, 3) := by decide +kernel
theorem dX11_mayLie_13 : decode cX11_mayLie 13 = .ok (.iconst 1, 1) := by decide +kernel
theorem dX11_mayLie_14 : decode cX11_mayLie 14 = .ok (.ireturn, 1) := by decide +kernel
theorem dX11_mayLie_15 : decode cX11_mayLie 15 = .ok (.aload_n 0, 1) := by decide +kernel
theorem dX11_mayLie_16 : decode cX11_mayLie 16 = .ok (.iload_n 2, 1) := by decide +kernel
theorem dX11_mayLie_17 : decode cX11_mayLie 17 = .ok (.invokevirtual 187, 3) := by decide +kernel
theorem dX11_mayLie_20 : decode cX11_mayLie 20 = .ok (.istore_n 3, 1) := by decide +kernel
theorem dX11_mayLie_21 : decode cX11_mayLie 21 = .ok (.iload_n 2, 1) := by decide +kernel
theorem dX11_mayLie_22 : decode cX11_mayLie 22 = .ok (.iconst 4, 1) := by decide +kernel
theorem dX11_mayLie_23 : decode cX11_mayLie 23 = .ok (.irem, 1) := by decide +kernel
theorem dX11_mayLie_24 : decode cX11_mayLie 24 = .ok (.istore 4, 2) := by decide +kernel
theorem dX11_mayLie_26 : decode cX11_mayLie 26 = .ok (.iload 4, 2) := by decide +kernel
theorem dX11_mayLie_28 : decode cX11_mayLie 28 = .ok (.ifCond .le 14, 3) := by decide +kernel
theorem dX11_mayLie_31 : decode cX11_mayLie 31 = .ok (.aload_n 0, 1) := by decide +kernel
theorem dX11_mayLie_32 : decode cX11_mayLie 32 = .ok (.getfield 21, 3) := by decide +kernel
theorem dX11_mayLie_35 : decode cX11_mayLie 35 = .ok (.iload_n 2, 1) := by decide +kernel
theorem dX11_mayLie_36 : decode cX11_mayLie 36 = .ok (.iconst 1, 1) := by decide +kernel
theorem dX11_mayLie_37 : decode cX11_mayLie 37 = .ok (.isub, 1) := by decide +kernel
theorem dX11_mayLie_38 : decode cX11_mayLie 38 = .ok (.iaload, 1) := by decide +kernel
theorem dX11_mayLie_39 : decode cX11_mayLie 39 = .ok (.goto 4, 3) := by decide +kernel
theorem dX11_mayLie_42 : decode cX11_mayLie 42 = .ok (.iconst (-1), 1) := by decide +kernel
theorem dX11_mayLie_43 : decode cX11_mayLie 43 = .ok (.istore 5, 2) := by decide +kernel
theorem dX11_mayLie_45 : decode cX11_mayLie 45 = .ok (.aload_n 0, 1) := by decide +kernel
theorem dX11_mayLie_46 : decode cX11_mayLie 46 = .ok (.getfield 34, 3) := by decide +kernel
theorem dX11_mayLie_49 : decode cX11_mayLie 49 = .ok (.aload_n 0, 1) := by decide +kernel
theorem dX11_mayLie_50 : decode cX11_mayLie 50 = .ok (.getfield 9, 3) := by decide +kernel
theorem dX11_mayLie_53 : decode cX11_mayLie 53 = .ok (.iload_n 1, 1) := by decide +kernel
theorem dX11_mayLie_54 : decode cX11_mayLie 54 = .ok (.iaload, 1) := by decide +kernel
theorem dX11_mayLie_55 : decode cX11_mayLie 55 = .ok (.aload_n 0, 1) := by decide +kernel
theorem dX11_mayLie_56 : decode cX11_mayLie 56 = .ok (.iload_n 1, 1) := by decide +kernel
theorem dX11_mayLie_57 : decode cX11_mayLie 57 = .ok (.invokevirtual 83, 3) := by decide +kernel
theorem dX11_mayLie_60 : decode cX11_mayLie 60 = .ok (.aload_n 0, 1) := by decide +kernel
theorem dX11_mayLie_61 : decode cX11_mayLie 61 = .ok (.getfield 15, 3) := by decide +kernel
theorem dX11_mayLie_64 : decode cX11_mayLie 64 = .ok (.iload_n 1, 1) := by decide +kernel
theorem dX11_mayLie_65 : decode cX11_mayLie 65 = .ok (.iaload, 1) := by decide +kernel
theorem dX11_mayLie_66 : decode cX11_mayLie 66 = .ok (.aload_n 0, 1) := by decide +kernel
theorem dX11_mayLie_67 : decode cX11_mayLie 67 = .ok (.getfield 38, 3) := by decide +kernel
theorem dX11_mayLie_70 : decode cX11_mayLie 70 = .ok (.invokevirtual 205, 3) := by decide +kernel
theorem dX11_mayLie_73 : decode cX11_mayLie 73 = .ok (.aload_n 0, 1) := by decide +kernel
theorem dX11_mayLie_74 : decode cX11_mayLie 74 = .ok (.getfield 34, 3) := by decide +kernel
theorem dX11_mayLie_77 : decode cX11_mayLie 77 = .ok (.getfield 209, 3) := by decide +kernel
theorem dX11_mayLie_80 : decode cX11_mayLie 80 = .ok (.getstatic 212, 3) := by decide +kernel
theorem dX11_mayLie_83 : decode cX11_mayLie 83 = .ok (.getfield 218, 3) := by decide +kernel
theorem dX11_mayLie_86 : decode cX11_mayLie 86 = .ok (.iload 4, 2) := by decide +kernel
theorem dX11_mayLie_88 : decode cX11_mayLie 88 = .ok (.iastore, 1) := by decide +kernel
theorem dX11_mayLie_89 : decode cX11_mayLie 89 = .ok (.aload_n 0, 1) := by decide +kernel
theorem dX11_mayLie_90 : decode cX11_mayLie 90 = .ok (.getfield 34, 3) := by decide +kernel
theorem dX11_mayLie_93 : decode cX11_mayLie 93 = .ok (.getfield 209, 3) := by decide +kernel
theorem dX11_mayLie_96 : decode cX11_mayLie 96 = .ok (.getstatic 221, 3) := by decide +kernel
theorem dX11_mayLie_99 : decode cX11_mayLie 99 = .ok (.getfield 218, 3) := by decide +kernel
theorem dX11_mayLie_102 : decode cX11_mayLie 102 = .ok (.iload_n 3, 1) := by decide +kernel
theorem dX11_mayLie_103 : decode cX11_mayLie 103 = .ok (.iconst (-1), 1) := by decide +kernel
theorem dX11_mayLie_104 : decode cX11_mayLie 104 = .ok (.if_icmp .eq 12, 3) := by decide +kernel
theorem dX11_mayLie_107 : decode cX11_mayLie 107 = .ok (.aload_n 0, 1) := by decide +kernel
theorem dX11_mayLie_108 : decode cX11_mayLie 108 = .ok (.getfield 15, 3) := by decide +kernel
theorem dX11_mayLie_111 : decode cX11_mayLie 111 = .ok (.iload_n 3, 1) := by decide +kernel
theorem dX11_mayLie_112 : decode cX11_mayLie 112 = .ok (.iaload, 1) := by decide +kernel
theorem dX11_mayLie_113 : decode cX11_mayLie 113 = .ok (.goto 4, 3) := by decide +kernel
theorem dX11_mayLie_116 : decode cX11_mayLie 116 = .ok (.iconst 0, 1) := by decide +kernel
theorem dX11_mayLie_117 : decode cX11_mayLie 117 = .ok (.iastore, 1) := by decide +kernel
theorem dX11_mayLie_118 : decode cX11_mayLie 118 = .ok (.aload_n 0, 1) := by decide +kernel
theorem dX11_mayLie_119 : decode cX11_mayLie 119 = .ok (.getfield 34, 3) := by decide +kernel
theorem dX11_mayLie_122 : decode cX11_mayLie 122 = .ok (.getfield 209, 3) := by decide +kernel
theorem dX11_mayLie_125 : decode cX11_mayLie 125 = .ok (.getstatic 224, 3) := by decide +kernel
theorem dX11_mayLie_128 : decode cX11_mayLie 128 = .ok (.getfield 218, 3) := by decide +kernel
theorem dX11_mayLie_131 : decode cX11_mayLie 131 = .ok (.iload 5, 2) := by decide +kernel
theorem dX11_mayLie_133 : decode cX11_mayLie 133 = .ok (.iconst (-1), 1) := by decide +kernel
theorem dX11_mayLie_134 : decode cX11_mayLie 134 = .ok (.if_icmp .eq 13, 3) := by decide +kernel
theorem dX11_mayLie_137 : decode cX11_mayLie 137 = .ok (.aload_n 0, 1) := by decide +kernel
theorem dX11_mayLie_138 : decode cX11_mayLie 138 = .ok (.getfield 15, 3) := by decide +kernel
theorem dX11_mayLie_141 : decode cX11_mayLie 141 = .ok (.iload 5, 2) := by decide +kernel
theorem dX11_mayLie_143 : decode cX11_mayLie 143 = .ok (.iaload, 1) := by decide +kernel
theorem dX11_mayLie_144 : decode cX11_mayLie 144 = .ok (.goto 4, 3) := by decide +kernel
theorem dX11_mayLie_147 : decode cX11_mayLie 147 = .ok (.iconst 0, 1) := by decide +kernel
theorem dX11_mayLie_148 : decode cX11_mayLie 148 = .ok (.iastore, 1) := by decide +kernel
theorem dX11_mayLie_149 : decode cX11_mayLie 149 = .ok (.aload_n 0, 1) := by decide +kernel
theorem dX11_mayLie_150 : decode cX11_mayLie 150 = .ok (.getfield 34, 3) := by decide +kernel
theorem dX11_mayLie_153 : decode cX11_mayLie 153 = .ok (.getfield 196, 3) := by decide +kernel
theorem dX11_mayLie_156 : decode cX11_mayLie 156 = .ok (.aload_n 0, 1) := by decide +kernel
theorem dX11_mayLie_157 : decode cX11_mayLie 157 = .ok (.getfield 34, 3) := by decide +kernel
theorem dX11_mayLie_160 : decode cX11_mayLie 160 = .ok (.getfield 209, 3) := by decide +kernel
theorem dX11_mayLie_163 : decode cX11_mayLie 163 = .ok (.invokevirtual 227, 3) := by decide +kernel
theorem dX11_mayLie_166 : decode cX11_mayLie 166 = .ok (.ifCond .eq 7, 3) := by decide +kernel
theorem dX11_mayLie_169 : decode cX11_mayLie 169 = .ok (.iconst 1, 1) := by decide +kernel
theorem dX11_mayLie_170 : decode cX11_mayLie 170 = .ok (.goto 4, 3) := by decide +kernel
theorem dX11_mayLie_173 : decode cX11_mayLie 173 = .ok (.iconst 0, 1) := by decide +kernel
theorem dX11_mayLie_174 : decode cX11_mayLie 174 = .ok (.ireturn, 1) := by decide +kernel
theorem dX11_keep_0 : decode cX11_keep 0 = .ok (.aload_n 0, 1) := by decide +kernel
theorem dX11_keep_1 : decode cX11_keep 1 = .ok (.getfield 68, 3) := by decide +kernel
theorem dX11_keep_4 : decode cX11_keep 4 = .ok (.bipush 60, 2) := by decide +kernel
theorem dX11_keep_6 : decode cX11_keep 6 = .ok (.if_icmp .ne 28, 3) := by decide +kernel
theorem dX11_keep_9 : decode cX11_keep 9 = .ok (.aload_n 0, 1) := by decide +kernel
theorem dX11_keep_10 : decode cX11_keep 10 = .ok (.getfield 27, 3) := by decide +kernel
theorem dX11_keep_13 : decode cX11_keep 13 = .ok (.iconst 1, 1) := by decide +kernel
theorem dX11_keep_14 : decode cX11_keep 14 = .ok (.aload_n 0, 1) := by decide +kernel
theorem dX11_keep_15 : decode cX11_keep 15 = .ok (.getfield 27, 3) := by decide +kernel
theorem dX11_keep_18 : decode cX11_keep 18 = .ok (.iconst 0, 1) := by decide +kernel
theorem dX11_keep_19 : decode cX11_keep 19 = .ok (.bipush 59, 2) := by decide +kernel
theorem dX11_keep_21 : decode cX11_keep 21 = .ok (.invokestatic 50, 3) := by decide +kernel
theorem dX11_keep_24 : decode cX11_keep 24 = .ok (.aload_n 0, 1) := by decide +kernel
theorem dX11_keep_25 : decode cX11_keep 25 = .ok (.dup, 1) := by decide +kernel
theorem dX11_keep_26 : decode cX11_keep 26 = .ok (.getfield 68, 3) := by decide +kernel
theorem dX11_keep_29 : decode cX11_keep 29 = .ok (.iconst 1, 1) := by decide +kernel
theorem dX11_keep_30 : decode cX11_keep 30 = .ok (.isub, 1) := by decide +kernel
theorem dX11_keep_31 : decode cX11_keep 31 = .ok (.putfield 68, 3) := by decide +kernel
theorem dX11_keep_34 : decode cX11_keep 34 = .ok (.aload_n 0, 1) := by decide +kernel
theorem dX11_keep_35 : decode cX11_keep 35 = .ok (.getfield 27, 3) := by decide +kernel
theorem dX11_keep_38 : decode cX11_keep 38 = .ok (.aload_n 0, 1) := by decide +kernel
theorem dX11_keep_39 : decode cX11_keep 39 = .ok (.getfield 68, 3) := by decide +kernel
theorem dX11_keep_42 : decode cX11_keep 42 = .ok (.aload_n 0, 1) := by decide +kernel
theorem dX11_keep_43 : decode cX11_keep 43 = .ok (.getfield 38, 3) := by decide +kernel
theorem dX11_keep_46 : decode cX11_keep 46 = .ok (.bipush 6, 2) := by decide +kernel
theorem dX11_keep_48 : decode cX11_keep 48 = .ok (.ishl, 1) := by decide +kernel
theorem dX11_keep_49 : decode cX11_keep 49 = .ok (.iload_n 1, 1) := by decide +kernel
theorem dX11_keep_50 : decode cX11_keep 50 = .ok (.iconst 3, 1) := by decide +kernel
theorem dX11_keep_51 : decode cX11_keep 51 = .ok (.ishl, 1) := by decide +kernel
theorem dX11_keep_52 : decode cX11_keep 52 = .ok (.ior, 1) := by decide +kernel
theorem dX11_keep_53 : decode cX11_keep 53 = .ok (.iload_n 2, 1) := by decide +kernel
theorem dX11_keep_54 : decode cX11_keep 54 = .ok (.iconst 1, 1) := by decide +kernel
theorem dX11_keep_55 : decode cX11_keep 55 = .ok (.ishl, 1) := by decide +kernel
theorem dX11_keep_56 : decode cX11_keep 56 = .ok (.ior, 1) := by decide +kernel
theorem dX11_keep_57 : decode cX11_keep 57 = .ok (.iload_n 3, 1) := by decide +kernel
theorem dX11_keep_58 : decode cX11_keep 58 = .ok (.ior, 1) := by decide +kernel
theorem dX11_keep_59 : decode cX11_keep 59 = .ok (.iastore, 1) := by decide +kernel
theorem dX11_keep_60 : decode cX11_keep 60 = .ok (.aload_n 0, 1) := by decide +kernel
theorem dX11_keep_61 : decode cX11_keep 61 = .ok (.dup, 1) := by decide +kernel
theorem dX11_keep_62 : decode cX11_keep 62 = .ok (.getfield 68, 3) := by decide +kernel
theorem dX11_keep_65 : decode cX11_keep 65 = .ok (.iconst 1, 1) := by decide +kernel
theorem dX11_keep_66 : decode cX11_keep 66 = .ok (.iadd, 1) := by decide +kernel
theorem dX11_keep_67 : decode cX11_keep 67 = .ok (.putfield 68, 3) := by decide +kernel
theorem dX11_keep_70 : decode cX11_keep 70 = .ok (.return_, 1) := by decide +kernel
theorem dX11_strongWhenDone_0 : decode cX11_strongWhenDone 0 = .ok (.aload_n 0, 1) := by decide +kernel
theorem dX11_strongWhenDone_1 : decode cX11_strongWhenDone 1 = .ok (.getfield 15, 3) := by decide +kernel
theorem dX11_strongWhenDone_4 : decode cX11_strongWhenDone 4 = .ok (.iload_n 1, 1) := by decide +kernel
theorem dX11_strongWhenDone_5 : decode cX11_strongWhenDone 5 = .ok (.iaload, 1) := by decide +kernel
theorem dX11_strongWhenDone_6 : decode cX11_strongWhenDone 6 = .ok (.istore_n 3, 1) := by decide +kernel
theorem dX11_strongWhenDone_7 : decode cX11_strongWhenDone 7 = .ok (.aload_n 0, 1) := by decide +kernel
theorem dX11_strongWhenDone_8 : decode cX11_strongWhenDone 8 = .ok (.iload_n 1, 1) := by decide +kernel
theorem dX11_strongWhenDone_9 : decode cX11_strongWhenDone 9 = .ok (.invokevirtual 83, 3) := by decide +kernel
theorem dX11_strongWhenDone_12 : decode cX11_strongWhenDone 12 = .ok (.aload_n 0, 1) := by decide +kernel
theorem dX11_strongWhenDone_13 : decode cX11_strongWhenDone 13 = .ok (.getfield 34, 3) := by decide +kernel
theorem dX11_strongWhenDone_16 : decode cX11_strongWhenDone 16 = .ok (.getfield 94, 3) := by decide +kernel
theorem dX11_strongWhenDone_19 : decode cX11_strongWhenDone 19 = .ok (.invokestatic 129, 3) := by decide +kernel
theorem dX11_strongWhenDone_22 : decode cX11_strongWhenDone 22 = .ok (.istore 4, 2) := by decide +kernel
theorem dX11_strongWhenDone_24 : decode cX11_strongWhenDone 24 = .ok (.iload 4, 2) := by decide +kernel
theorem dX11_strongWhenDone_26 : decode cX11_strongWhenDone 26 = .ok (.aload_n 0, 1) := by decide +kernel
theorem dX11_strongWhenDone_27 : decode cX11_strongWhenDone 27 = .ok (.getfield 34, 3) := by decide +kernel
theorem dX11_strongWhenDone_30 : decode cX11_strongWhenDone 30 = .ok (.getfield 87, 3) := by decide +kernel
theorem dX11_strongWhenDone_33 : decode cX11_strongWhenDone 33 = .ok (.if_icmp .ge 33, 3) := by decide +kernel
theorem dX11_strongWhenDone_36 : decode cX11_strongWhenDone 36 = .ok (.aload_n 0, 1) := by decide +kernel
theorem dX11_strongWhenDone_37 : decode cX11_strongWhenDone 37 = .ok (.getfield 34, 3) := by decide +kernel
theorem dX11_strongWhenDone_40 : decode cX11_strongWhenDone 40 = .ok (.iload_n 2, 1) := by decide +kernel
theorem dX11_strongWhenDone_41 : decode cX11_strongWhenDone 41 = .ok (.iload 4, 2) := by decide +kernel
theorem dX11_strongWhenDone_43 : decode cX11_strongWhenDone 43 = .ok (.iload_n 3, 1) := by decide +kernel
theorem dX11_strongWhenDone_44 : decode cX11_strongWhenDone 44 = .ok (.aload_n 0, 1) := by decide +kernel
theorem dX11_strongWhenDone_45 : decode cX11_strongWhenDone 45 = .ok (.getfield 34, 3) := by decide +kernel
theorem dX11_strongWhenDone_48 : decode cX11_strongWhenDone 48 = .ok (.getfield 80, 3) := by decide +kernel
theorem dX11_strongWhenDone_51 : decode cX11_strongWhenDone 51 = .ok (.iload_n 1, 1) := by decide +kernel
theorem dX11_strongWhenDone_52 : decode cX11_strongWhenDone 52 = .ok (.iaload, 1) := by decide +kernel
theorem dX11_strongWhenDone_53 : decode cX11_strongWhenDone 53 = .ok (.iload 4, 2) := by decide +kernel
theorem dX11_strongWhenDone_55 : decode cX11_strongWhenDone 55 = .ok (.iadd, 1) := by decide +kernel
theorem dX11_strongWhenDone_56 : decode cX11_strongWhenDone 56 = .ok (.invokevirtual 152, 3) := by decide +kernel
theorem dX11_strongWhenDone_59 : decode cX11_strongWhenDone 59 = .ok (.istore_n 3, 1) := by decide +kernel
theorem dX11_strongWhenDone_60 : decode cX11_strongWhenDone 60 = .ok (.iinc 4 1, 3) := by decide +kernel
theorem dX11_strongWhenDone_63 : decode cX11_strongWhenDone 63 = .ok (.goto (-39), 3) := by decide +kernel
theorem dX11_strongWhenDone_66 : decode cX11_strongWhenDone 66 = .ok (.iload_n 3, 1) := by decide +kernel
theorem dX11_strongWhenDone_67 : decode cX11_strongWhenDone 67 = .ok (.ireturn, 1) := by decide +kernel
theorem dJx29ce0_ordinal_8abf5_0 : decode cJx29ce0_ordinal_8abf5 0 = .ok (.aload_n 0, 1) := by decide +kernel
theorem dJx29ce0_ordinal_8abf5_1 : decode cJx29ce0_ordinal_8abf5 1 = .ok (.getfield 7, 3) := by decide +kernel
theorem dJx29ce0_ordinal_8abf5_4 : decode cJx29ce0_ordinal_8abf5 4 = .ok (.ireturn, 1) := by decide +kernel
theorem dJ6_bitCount_0f7a4_0 : decode cJ6_bitCount_0f7a4 0 = .ok (.iload_n 0, 1) := by decide +kernel
theorem dJ6_bitCount_0f7a4_1 : decode cJ6_bitCount_0f7a4 1 = .ok (.iload_n 0, 1) := by decide +kernel
theorem dJ6_bitCount_0f7a4_2 : decode cJ6_bitCount_0f7a4 2 = .ok (.iconst 1, 1) := by decide +kernel
theorem dJ6_bitCount_0f7a4_3 : decode cJ6_bitCount_0f7a4 3 = .ok (.iushr, 1) := by decide +kernel
theorem dJ6_bitCount_0f7a4_4 : decode cJ6_bitCount_0f7a4 4 = .ok (.ldc_w 265, 3) := by decide +kernel
theorem dJ6_bitCount_0f7a4_7 : decode cJ6_bitCount_0f7a4 7 = .ok (.iand, 1) := by decide +kernel
theorem dJ6_bitCount_0f7a4_8 : decode cJ6_bitCount_0f7a4 8 = .ok (.isub, 1) := by decide +kernel
theorem dJ6_bitCount_0f7a4_9 : decode cJ6_bitCount_0f7a4 9 = .ok (.istore_n 0, 1) := by decide +kernel
theorem dJ6_bitCount_0f7a4_10 : decode cJ6_bitCount_0f7a4 10 = .ok (.iload_n 0, 1) := by decide +kernel
theorem dJ6_bitCount_0f7a4_11 : decode cJ6_bitCount_0f7a4 11 = .ok (.ldc_w 266, 3) := by decide +kernel
theorem dJ6_bitCount_0f7a4_14 : decode cJ6_bitCount_0f7a4 14 = .ok (.iand, 1) := by decide +kernel
theorem dJ6_bitCount_0f7a4_15 : decode cJ6_bitCount_0f7a4 15 = .ok (.iload_n 0, 1) := by decide +kernel
theorem dJ6_bitCount_0f7a4_16 : decode cJ6_bitCount_0f7a4 16 = .ok (.iconst 2, 1) := by decide +kernel
theorem dJ6_bitCount_0f7a4_17 : decode cJ6_bitCount_0f7a4 17 = .ok (.iushr, 1) := by decide +kernel
theorem dJ6_bitCount_0f7a4_18 : decode cJ6_bitCount_0f7a4 18 = .ok (.ldc_w 266, 3) := by decide +kernel
theorem dJ6_bitCount_0f7a4_21 : decode cJ6_bitCount_0f7a4 21 = .ok (.iand, 1) := by decide +kernel
theorem dJ6_bitCount_0f7a4_22 : decode cJ6_bitCount_0f7a4 22 = .ok (.iadd, 1) := by decide +kernel
theorem dJ6_bitCount_0f7a4_23 : decode cJ6_bitCount_0f7a4 23 = .ok (.istore_n 0, 1) := by decide +kernel
theorem dJ6_bitCount_0f7a4_24 : decode cJ6_bitCount_0f7a4 24 = .ok (.iload_n 0, 1) := by decide +kernel
theorem dJ6_bitCount_0f7a4_25 : decode cJ6_bitCount_0f7a4 25 = .ok (.iload_n 0, 1) := by decide +kernel
theorem dJ6_bitCount_0f7a4_26 : decode cJ6_bitCount_0f7a4 26 = .ok (.iconst 4, 1) := by decide +kernel
theorem dJ6_bitCount_0f7a4_27 : decode cJ6_bitCount_0f7a4 27 = .ok (.iushr, 1) := by decide +kernel
theorem dJ6_bitCount_0f7a4_28 : decode cJ6_bitCount_0f7a4 28 = .ok (.iadd, 1) := by decide +kernel
theorem dJ6_bitCount_0f7a4_29 : decode cJ6_bitCount_0f7a4 29 = .ok (.ldc_w 267, 3) := by decide +kernel
theorem dJ6_bitCount_0f7a4_32 : decode cJ6_bitCount_0f7a4 32 = .ok (.iand, 1) := by decide +kernel
theorem dJ6_bitCount_0f7a4_33 : decode cJ6_bitCount_0f7a4 33 = .ok (.istore_n 0, 1) := by decide +kernel
theorem dJ6_bitCount_0f7a4_34 : decode cJ6_bitCount_0f7a4 34 = .ok (.iload_n 0, 1) := by decide +kernel
theorem dJ6_bitCount_0f7a4_35 : decode cJ6_bitCount_0f7a4 35 = .ok (.iload_n 0, 1) := by decide +kernel
theorem dJ6_bitCount_0f7a4_36 : decode cJ6_bitCount_0f7a4 36 = .ok (.bipush 8, 2) := by decide +kernel
theorem dJ6_bitCount_0f7a4_38 : decode cJ6_bitCount_0f7a4 38 = .ok (.iushr, 1) := by decide +kernel
theorem dJ6_bitCount_0f7a4_39 : decode cJ6_bitCount_0f7a4 39 = .ok (.iadd, 1) := by decide +kernel
theorem dJ6_bitCount_0f7a4_40 : decode cJ6_bitCount_0f7a4 40 = .ok (.istore_n 0, 1) := by decide +kernel
theorem dJ6_bitCount_0f7a4_41 : decode cJ6_bitCount_0f7a4 41 = .ok (.iload_n 0, 1) := by decide +kernel
theorem dJ6_bitCount_0f7a4_42 : decode cJ6_bitCount_0f7a4 42 = .ok (.iload_n 0, 1) := by decide +kernel
theorem dJ6_bitCount_0f7a4_43 : decode cJ6_bitCount_0f7a4 43 = .ok (.bipush 16, 2) := by decide +kernel
theorem dJ6_bitCount_0f7a4_45 : decode cJ6_bitCount_0f7a4 45 = .ok (.iushr, 1) := by decide +kernel
theorem dJ6_bitCount_0f7a4_46 : decode cJ6_bitCount_0f7a4 46 = .ok (.iadd, 1) := by decide +kernel
theorem dJ6_bitCount_0f7a4_47 : decode cJ6_bitCount_0f7a4 47 = .ok (.istore_n 0, 1) := by decide +kernel
theorem dJ6_bitCount_0f7a4_48 : decode cJ6_bitCount_0f7a4 48 = .ok (.iload_n 0, 1) := by decide +kernel
theorem dJ6_bitCount_0f7a4_49 : decode cJ6_bitCount_0f7a4 49 = .ok (.bipush 63, 2) := by decide +kernel
theorem dJ6_bitCount_0f7a4_51 : decode cJ6_bitCount_0f7a4 51 = .ok (.iand, 1) := by decide +kernel
theorem dJ6_bitCount_0f7a4_52 : decode cJ6_bitCount_0f7a4 52 = .ok (.ireturn, 1) := by decide +kernel
theorem dJ9_floorDiv_f86c9_0 : decode cJ9_floorDiv_f86c9 0 = .ok (.lload_n 0, 1) := by decide +kernel
theorem dJ9_floorDiv_f86c9_1 : decode cJ9_floorDiv_f86c9 1 = .ok (.lload_n 2, 1) := by decide +kernel
theorem dJ9_floorDiv_f86c9_2 : decode cJ9_floorDiv_f86c9 2 = .ok (.ldiv, 1) := by decide +kernel
theorem dJ9_floorDiv_f86c9_3 : decode cJ9_floorDiv_f86c9 3 = .ok (.lstore 4, 2) := by decide +kernel
theorem dJ9_floorDiv_f86c9_5 : decode cJ9_floorDiv_f86c9 5 = .ok (.lload_n 0, 1) := by decide +kernel
theorem dJ9_floorDiv_f86c9_6 : decode cJ9_floorDiv_f86c9 6 = .ok (.lload_n 2, 1) := by decide +kernel
theorem dJ9_floorDiv_f86c9_7 : decode cJ9_floorDiv_f86c9 7 = .ok (.lxor, 1) := by decide +kernel
theorem dJ9_floorDiv_f86c9_8 : decode cJ9_floorDiv_f86c9 8 = .ok (.lconst 0, 1) := by decide +kernel
theorem dJ9_floorDiv_f86c9_9 : decode cJ9_floorDiv_f86c9 9 = .ok (.lcmp, 1) := by decide +kernel
theorem dJ9_floorDiv_f86c9_10 : decode cJ9_floorDiv_f86c9 10 = .ok (.ifCond .ge 17, 3) := by decide +kernel
theorem dJ9_floorDiv_f86c9_13 : decode cJ9_floorDiv_f86c9 13 = .ok (.lload 4, 2) := by decide +kernel
theorem dJ9_floorDiv_f86c9_15 : decode cJ9_floorDiv_f86c9 15 = .ok (.lload_n 2, 1) := by decide +kernel
theorem dJ9_floorDiv_f86c9_16 : decode cJ9_floorDiv_f86c9 16 = .ok (.lmul, 1) := by decide +kernel
theorem dJ9_floorDiv_f86c9_17 : decode cJ9_floorDiv_f86c9 17 = .ok (.lload_n 0, 1) := by decide +kernel
theorem dJ9_floorDiv_f86c9_18 : decode cJ9_floorDiv_f86c9 18 = .ok (.lcmp, 1) := by decide +kernel
theorem dJ9_floorDiv_f86c9_19 : decode cJ9_floorDiv_f86c9 19 = .ok (.ifCond .eq 8, 3) := by decide +kernel
theorem dJ9_floorDiv_f86c9_22 : decode cJ9_floorDiv_f86c9 22 = .ok (.lload 4, 2) := by decide +kernel
theorem dJ9_floorDiv_f86c9_24 : decode cJ9_floorDiv_f86c9 24 = .ok (.lconst 1, 1) := by decide +kernel
theorem dJ9_floorDiv_f86c9_25 : decode cJ9_floorDiv_f86c9 25 = .ok (.lsub, 1) := by decide +kernel
theorem dJ9_floorDiv_f86c9_26 : decode cJ9_floorDiv_f86c9 26 = .ok (.lreturn, 1) := by decide +kernel
theorem dJ9_floorDiv_f86c9_27 : decode cJ9_floorDiv_f86c9 27 = .ok (.lload 4, 2) := by decide +kernel
theorem dJ9_floorDiv_f86c9_29 : decode cJ9_floorDiv_f86c9 29 = .ok (.lreturn, 1) := by decide +kernel
theorem dJ9_floorMod_f86c9_0 : decode cJ9_floorMod_f86c9 0 = .ok (.lload_n 0, 1) := by decide +kernel
theorem dJ9_floorMod_f86c9_1 : decode cJ9_floorMod_f86c9 1 = .ok (.lload_n 2, 1) := by decide +kernel
theorem dJ9_floorMod_f86c9_2 : decode cJ9_floorMod_f86c9 2 = .ok (.lrem, 1) := by decide +kernel
theorem dJ9_floorMod_f86c9_3 : decode cJ9_floorMod_f86c9 3 = .ok (.lstore 4, 2) := by decide +kernel
theorem dJ9_floorMod_f86c9_5 : decode cJ9_floorMod_f86c9 5 = .ok (.lload_n 0, 1) := by decide +kernel
theorem dJ9_floorMod_f86c9_6 : decode cJ9_floorMod_f86c9 6 = .ok (.lload_n 2, 1) := by decide +kernel
theorem dJ9_floorMod_f86c9_7 : decode cJ9_floorMod_f86c9 7 = .ok (.lxor, 1) := by decide +kernel
theorem dJ9_floorMod_f86c9_8 : decode cJ9_floorMod_f86c9 8 = .ok (.lconst 0, 1) := by decide +kernel
theorem dJ9_floorMod_f86c9_9 : decode cJ9_floorMod_f86c9 9 = .ok (.lcmp, 1) := by decide +kernel
theorem dJ9_floorMod_f86c9_10 : decode cJ9_floorMod_f86c9 10 = .ok (.ifCond .ge 15, 3) := by decide +kernel
theorem dJ9_floorMod_f86c9_13 : decode cJ9_floorMod_f86c9 13 = .ok (.lload 4, 2) := by decide +kernel
theorem dJ9_floorMod_f86c9_15 : decode cJ9_floorMod_f86c9 15 = .ok (.lconst 0, 1) := by decide +kernel
theorem dJ9_floorMod_f86c9_16 : decode cJ9_floorMod_f86c9 16 = .ok (.lcmp, 1) := by decide +kernel
theorem dJ9_floorMod_f86c9_17 : decode cJ9_floorMod_f86c9 17 = .ok (.ifCond .eq 8, 3) := by decide +kernel
theorem dJ9_floorMod_f86c9_20 : decode cJ9_floorMod_f86c9 20 = .ok (.lload 4, 2) := by decide +kernel
theorem dJ9_floorMod_f86c9_22 : decode cJ9_floorMod_f86c9 22 = .ok (.lload_n 2, 1) := by decide +kernel
theorem dJ9_floorMod_f86c9_23 : decode cJ9_floorMod_f86c9 23 = .ok (.ladd, 1) := by decide +kernel
theorem dJ9_floorMod_f86c9_24 : decode cJ9_floorMod_f86c9 24 = .ok (.lreturn, 1) := by decide +kernel
theorem dJ9_floorMod_f86c9_25 : decode cJ9_floorMod_f86c9 25 = .ok (.lload 4, 2) := by decide +kernel
theorem dJ9_floorMod_f86c9_27 : decode cJ9_floorMod_f86c9 27 = .ok (.lreturn, 1) := by decide +kernel
theorem dJ9_max_7cf53_0 : decode cJ9_max_7cf53 0 = .ok (.iload_n 0, 1) := by decide +kernel
theorem dJ9_max_7cf53_1 : decode cJ9_max_7cf53 1 = .ok (.iload_n 1, 1) := by decide +kernel
theorem dJ9_max_7cf53_2 : decode cJ9_max_7cf53 2 = .ok (.if_icmp .lt 7, 3) := by decide +kernel
theorem dJ9_max_7cf53_5 : decode cJ9_max_7cf53 5 = .ok (.iload_n 0, 1) := by decide +kernel
theorem dJ9_max_7cf53_6 : decode cJ9_max_7cf53 6 = .ok (.goto 4, 3) := by decide +kernel
theorem dJ9_max_7cf53_9 : decode cJ9_max_7cf53 9 = .ok (.iload_n 1, 1) := by decide +kernel
theorem dJ9_max_7cf53_10 : decode cJ9_max_7cf53 10 = .ok (.ireturn, 1) := by decide +kernel
theorem dJ9_max_f86c9_0 : decode cJ9_max_f86c9 0 = .ok (.lload_n 0, 1) := by decide +kernel
theorem dJ9_max_f86c9_1 : decode cJ9_max_f86c9 1 = .ok (.lload_n 2, 1) := by decide +kernel
theorem dJ9_max_f86c9_2 : decode cJ9_max_f86c9 2 = .ok (.lcmp, 1) := by decide +kernel
theorem dJ9_max_f86c9_3 : decode cJ9_max_f86c9 3 = .ok (.ifCond .lt 7, 3) := by decide +kernel
theorem dJ9_max_f86c9_6 : decode cJ9_max_f86c9 6 = .ok (.lload_n 0, 1) := by decide +kernel
theorem dJ9_max_f86c9_7 : decode cJ9_max_f86c9 7 = .ok (.goto 4, 3) := by decide +kernel
theorem dJ9_max_f86c9_10 : decode cJ9_max_f86c9 10 = .ok (.lload_n 2, 1) := by decide +kernel
theorem dJ9_max_f86c9_11 : decode cJ9_max_f86c9 11 = .ok (.lreturn, 1) := by decide +kernel
theorem dJ9_min_7cf53_0 : decode cJ9_min_7cf53 0 = .ok (.iload_n 0, 1) := by decide +kernel
theorem dJ9_min_7cf53_1 : decode cJ9_min_7cf53 1 = .ok (.iload_n 1, 1) := by decide +kernel
theorem dJ9_min_7cf53_2 : decode cJ9_min_7cf53 2 = .ok (.if_icmp .gt 7, 3) := by decide +kernel
theorem dJ9_min_7cf53_5 : decode cJ9_min_7cf53 5 = .ok (.iload_n 0, 1) := by decide +kernel
theorem dJ9_min_7cf53_6 : decode cJ9_min_7cf53 6 = .ok (.goto 4, 3) := by decide +kernel
theorem dJ9_min_7cf53_9 : decode cJ9_min_7cf53 9 = .ok (.iload_n 1, 1) := by decide +kernel
theorem dJ9_min_7cf53_10 : decode cJ9_min_7cf53 10 = .ok (.ireturn, 1) := by decide +kernel
theorem dJ9_min_f86c9_0 : decode cJ9_min_f86c9 0 = .ok (.lload_n 0, 1) := by decide +kernel
theorem dJ9_min_f86c9_1 : decode cJ9_min_f86c9 1 = .ok (.lload_n 2, 1) := by decide +kernel
theorem dJ9_min_f86c9_2 : decode cJ9_min_f86c9 2 = .ok (.lcmp, 1) := by decide +kernel
theorem dJ9_min_f86c9_3 : decode cJ9_min_f86c9 3 = .ok (.ifCond .gt 7, 3) := by decide +kernel
theorem dJ9_min_f86c9_6 : decode cJ9_min_f86c9 6 = .ok (.lload_n 0, 1) := by decide +kernel
theorem dJ9_min_f86c9_7 : decode cJ9_min_f86c9 7 = .ok (.goto 4, 3) := by decide +kernel
theorem dJ9_min_f86c9_10 : decode cJ9_min_f86c9 10 = .ok (.lload_n 2, 1) := by decide +kernel
theorem dJ9_min_f86c9_11 : decode cJ9_min_f86c9 11 = .ok (.lreturn, 1) := by decide +kernel
theorem dJ7_fill_53178_0 : decode cJ7_fill_53178 0 = .ok (.iconst 0, 1) := by decide +kernel
theorem dJ7_fill_53178_1 : decode cJ7_fill_53178 1 = .ok (.istore_n 2, 1) := by decide +kernel
theorem dJ7_fill_53178_2 : decode cJ7_fill_53178 2 = .ok (.aload_n 0, 1) := by decide +kernel
theorem dJ7_fill_53178_3 : decode cJ7_fill_53178 3 = .ok (.arraylength, 1) := by decide +kernel
theorem dJ7_fill_53178_4 : decode cJ7_fill_53178 4 = .ok (.istore_n 3, 1) := by decide +kernel
theorem dJ7_fill_53178_5 : decode cJ7_fill_53178 5 = .ok (.iload_n 2, 1) := by decide +kernel
theorem dJ7_fill_53178_6 : decode cJ7_fill_53178 6 = .ok (.iload_n 3, 1) := by decide +kernel
theorem dJ7_fill_53178_7 : decode cJ7_fill_53178 7 = .ok (.if_icmp .ge 13, 3) := by decide +kernel
theorem dJ7_fill_53178_10 : decode cJ7_fill_53178 10 = .ok (.aload_n 0, 1) := by decide +kernel
theorem dJ7_fill_53178_11 : decode cJ7_fill_53178 11 = .ok (.iload_n 2, 1) := by decide +kernel
theorem dJ7_fill_53178_12 : decode cJ7_fill_53178 12 = .ok (.iload_n 1, 1) := by decide +kernel
theorem dJ7_fill_53178_13 : decode cJ7_fill_53178 13 = .ok (.iastore, 1) := by decide +kernel
theorem dJ7_fill_53178_14 : decode cJ7_fill_53178 14 = .ok (.iinc 2 1, 3) := by decide +kernel
theorem dJ7_fill_53178_17 : decode cJ7_fill_53178 17 = .ok (.goto (-12), 3) := by decide +kernel
theorem dJ7_fill_53178_20 : decode cJ7_fill_53178 20 = .ok (.return_, 1) := by decide +kernel
