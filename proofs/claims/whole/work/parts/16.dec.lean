theorem dX13_lies_24 : decode cX13_lies 24 = .ok (.iload_n 2, 1) := by decide +kernel
theorem dX13_lies_25 : decode cX13_lies 25 = .ok (.if_icmp .ne 29, 3) := by decide +kernel
theorem dX13_lies_28 : decode cX13_lies 28 = .ok (.aload_n 0, 1) := by decide +kernel
theorem dX13_lies_29 : decode cX13_lies 29 = .ok (.iload_n 1, 1) := by decide +kernel
theorem dX13_lies_30 : decode cX13_lies 30 = .ok (.iload 5, 2) := by decide +kernel
theorem dX13_lies_32 : decode cX13_lies 32 = .ok (.invokevirtual 510, 3) := by decide +kernel
theorem dX13_lies_35 : decode cX13_lies 35 = .ok (.iload_n 3, 1) := by decide +kernel
theorem dX13_lies_36 : decode cX13_lies 36 = .ok (.if_icmp .ne 18, 3) := by decide +kernel
theorem dX13_lies_39 : decode cX13_lies 39 = .ok (.aload_n 0, 1) := by decide +kernel
theorem dX13_lies_40 : decode cX13_lies 40 = .ok (.iload_n 1, 1) := by decide +kernel
theorem dX13_lies_41 : decode cX13_lies 41 = .ok (.iload 5, 2) := by decide +kernel
theorem dX13_lies_43 : decode cX13_lies 43 = .ok (.invokevirtual 513, 3) := by decide +kernel
theorem dX13_lies_46 : decode cX13_lies 46 = .ok (.iload 4, 2) := by decide +kernel
theorem dX13_lies_48 : decode cX13_lies 48 = .ok (.if_icmp .ne 6, 3) := by decide +kernel
theorem dX13_lies_51 : decode cX13_lies 51 = .ok (.iload 5, 2) := by decide +kernel
theorem dX13_lies_53 : decode cX13_lies 53 = .ok (.ireturn, 1) := by decide +kernel
theorem dX13_lies_54 : decode cX13_lies 54 = .ok (.iinc 5 1, 3) := by decide +kernel
theorem dX13_lies_57 : decode cX13_lies 57 = .ok (.goto (-54), 3) := by decide +kernel
theorem dX13_lies_60 : decode cX13_lies 60 = .ok (.iconst (-1), 1) := by decide +kernel
theorem dX13_lies_61 : decode cX13_lies 61 = .ok (.ireturn, 1) := by decide +kernel
theorem dX13_tall_0 : decode cX13_tall 0 = .ok (.iconst 0, 1) := by decide +kernel
theorem dX13_tall_1 : decode cX13_tall 1 = .ok (.istore 4, 2) := by decide +kernel
theorem dX13_tall_3 : decode cX13_tall 3 = .ok (.iconst 0, 1) := by decide +kernel
theorem dX13_tall_4 : decode cX13_tall 4 = .ok (.istore 5, 2) := by decide +kernel
theorem dX13_tall_6 : decode cX13_tall 6 = .ok (.iload 5, 2) := by decide +kernel
theorem dX13_tall_8 : decode cX13_tall 8 = .ok (.aload_n 0, 1) := by decide +kernel
theorem dX13_tall_9 : decode cX13_tall 9 = .ok (.getfield 63, 3) := by decide +kernel
theorem dX13_tall_12 : decode cX13_tall 12 = .ok (.aload_n 0, 1) := by decide +kernel
theorem dX13_tall_13 : decode cX13_tall 13 = .ok (.getfield 51, 3) := by decide +kernel
theorem dX13_tall_16 : decode cX13_tall 16 = .ok (.iaload, 1) := by decide +kernel
theorem dX13_tall_17 : decode cX13_tall 17 = .ok (.if_icmp .ge 41, 3) := by decide +kernel
theorem dX13_tall_20 : decode cX13_tall 20 = .ok (.iload 4, 2) := by decide +kernel
theorem dX13_tall_22 : decode cX13_tall 22 = .ok (.aload_n 0, 1) := by decide +kernel
theorem dX13_tall_23 : decode cX13_tall 23 = .ok (.iload_n 1, 1) := by decide +kernel
theorem dX13_tall_24 : decode cX13_tall 24 = .ok (.iload 5, 2) := by decide +kernel
theorem dX13_tall_26 : decode cX13_tall 26 = .ok (.invokevirtual 507, 3) := by decide +kernel
theorem dX13_tall_29 : decode cX13_tall 29 = .ok (.iload_n 2, 1) := by decide +kernel
theorem dX13_tall_30 : decode cX13_tall 30 = .ok (.if_icmp .ne 18, 3) := by decide +kernel
theorem dX13_tall_33 : decode cX13_tall 33 = .ok (.aload_n 0, 1) := by decide +kernel
theorem dX13_tall_34 : decode cX13_tall 34 = .ok (.iload_n 1, 1) := by decide +kernel
theorem dX13_tall_35 : decode cX13_tall 35 = .ok (.iload 5, 2) := by decide +kernel
theorem dX13_tall_37 : decode cX13_tall 37 = .ok (.invokevirtual 510, 3) := by decide +kernel
theorem dX13_tall_40 : decode cX13_tall 40 = .ok (.iload_n 3, 1) := by decide +kernel
theorem dX13_tall_41 : decode cX13_tall 41 = .ok (.if_icmp .ne 7, 3) := by decide +kernel
theorem dX13_tall_44 : decode cX13_tall 44 = .ok (.iconst 1, 1) := by decide +kernel
theorem dX13_tall_45 : decode cX13_tall 45 = .ok (.goto 4, 3) := by decide +kernel
theorem dX13_tall_48 : decode cX13_tall 48 = .ok (.iconst 0, 1) := by decide +kernel
theorem dX13_tall_49 : decode cX13_tall 49 = .ok (.iadd, 1) := by decide +kernel
theorem dX13_tall_50 : decode cX13_tall 50 = .ok (.istore 4, 2) := by decide +kernel
theorem dX13_tall_52 : decode cX13_tall 52 = .ok (.iinc 5 1, 3) := by decide +kernel
theorem dX13_tall_55 : decode cX13_tall 55 = .ok (.goto (-49), 3) := by decide +kernel
theorem dX13_tall_58 : decode cX13_tall 58 = .ok (.iload 4, 2) := by decide +kernel
theorem dX13_tall_60 : decode cX13_tall 60 = .ok (.ireturn, 1) := by decide +kernel
theorem dX13_load_0 : decode cX13_load 0 = .ok (.aload_n 0, 1) := by decide +kernel
theorem dX13_load_1 : decode cX13_load 1 = .ok (.iload_n 1, 1) := by decide +kernel
theorem dX13_load_2 : decode cX13_load 2 = .ok (.aload_n 0, 1) := by decide +kernel
theorem dX13_load_3 : decode cX13_load 3 = .ok (.iload_n 1, 1) := by decide +kernel
theorem dX13_load_4 : decode cX13_load 4 = .ok (.iload_n 2, 1) := by decide +kernel
theorem dX13_load_5 : decode cX13_load 5 = .ok (.invokevirtual 507, 3) := by decide +kernel
theorem dX13_load_8 : decode cX13_load 8 = .ok (.aload_n 0, 1) := by decide +kernel
theorem dX13_load_9 : decode cX13_load 9 = .ok (.iload_n 1, 1) := by decide +kernel
theorem dX13_load_10 : decode cX13_load 10 = .ok (.iload_n 2, 1) := by decide +kernel
theorem dX13_load_11 : decode cX13_load 11 = .ok (.invokevirtual 510, 3) := by decide +kernel
theorem dX13_load_14 : decode cX13_load 14 = .ok (.invokevirtual 516, 3) := by decide +kernel
theorem dX13_load_17 : decode cX13_load 17 = .ok (.iconst 1, 1) := by decide +kernel
theorem dX13_load_18 : decode cX13_load 18 = .ok (.isub, 1) := by decide +kernel
theorem dX13_load_19 : decode cX13_load 19 = .ok (.aload_n 0, 1) := by decide +kernel
theorem dX13_load_20 : decode cX13_load 20 = .ok (.iload_n 1, 1) := by decide +kernel
theorem dX13_load_21 : decode cX13_load 21 = .ok (.iload_n 2, 1) := by decide +kernel
theorem dX13_load_22 : decode cX13_load 22 = .ok (.invokevirtual 513, 3) := by decide +kernel
theorem dX13_load_25 : decode cX13_load 25 = .ok (.isub, 1) := by decide +kernel
theorem dX13_load_26 : decode cX13_load 26 = .ok (.aload_n 0, 1) := by decide +kernel
theorem dX13_load_27 : decode cX13_load 27 = .ok (.iconst 2, 1) := by decide +kernel
theorem dX13_load_28 : decode cX13_load 28 = .ok (.invokevirtual 501, 3) := by decide +kernel
theorem dX13_load_31 : decode cX13_load 31 = .ok (.imul, 1) := by decide +kernel
theorem dX13_load_32 : decode cX13_load 32 = .ok (.ireturn, 1) := by decide +kernel
theorem dX13_bears_0 : decode cX13_bears 0 = .ok (.aload_n 0, 1) := by decide +kernel
theorem dX13_bears_1 : decode cX13_bears 1 = .ok (.iload_n 2, 1) := by decide +kernel
theorem dX13_bears_2 : decode cX13_bears 2 = .ok (.invokevirtual 519, 3) := by decide +kernel
theorem dX13_bears_5 : decode cX13_bears 5 = .ok (.iconst (-1), 1) := by decide +kernel
theorem dX13_bears_6 : decode cX13_bears 6 = .ok (.if_icmp .eq 22, 3) := by decide +kernel
theorem dX13_bears_9 : decode cX13_bears 9 = .ok (.aload_n 0, 1) := by decide +kernel
theorem dX13_bears_10 : decode cX13_bears 10 = .ok (.iload_n 1, 1) := by decide +kernel
theorem dX13_bears_11 : decode cX13_bears 11 = .ok (.aload_n 0, 1) := by decide +kernel
theorem dX13_bears_12 : decode cX13_bears 12 = .ok (.iload_n 2, 1) := by decide +kernel
theorem dX13_bears_13 : decode cX13_bears 13 = .ok (.invokevirtual 519, 3) := by decide +kernel
theorem dX13_bears_16 : decode cX13_bears 16 = .ok (.invokevirtual 507, 3) := by decide +kernel
theorem dX13_bears_19 : decode cX13_bears 19 = .ok (.aload_n 0, 1) := by decide +kernel
theorem dX13_bears_20 : decode cX13_bears 20 = .ok (.iload_n 1, 1) := by decide +kernel
theorem dX13_bears_21 : decode cX13_bears 21 = .ok (.iload_n 2, 1) := by decide +kernel
theorem dX13_bears_22 : decode cX13_bears 22 = .ok (.invokevirtual 507, 3) := by decide +kernel
theorem dX13_bears_25 : decode cX13_bears 25 = .ok (.if_icmp .ne 12, 3) := by decide +kernel
theorem dX13_bears_28 : decode cX13_bears 28 = .ok (.aload_n 0, 1) := by decide +kernel
theorem dX13_bears_29 : decode cX13_bears 29 = .ok (.iload_n 1, 1) := by decide +kernel
theorem dX13_bears_30 : decode cX13_bears 30 = .ok (.iload_n 2, 1) := by decide +kernel
theorem dX13_bears_31 : decode cX13_bears 31 = .ok (.invokevirtual 522, 3) := by decide +kernel
theorem dX13_bears_34 : decode cX13_bears 34 = .ok (.goto 11, 3) := by decide +kernel
theorem dX13_bears_37 : decode cX13_bears 37 = .ok (.aload_n 0, 1) := by decide +kernel
theorem dX13_bears_38 : decode cX13_bears 38 = .ok (.iload_n 1, 1) := by decide +kernel
theorem dX13_bears_39 : decode cX13_bears 39 = .ok (.iload_n 2, 1) := by decide +kernel
theorem dX13_bears_40 : decode cX13_bears 40 = .ok (.invokevirtual 522, 3) := by decide +kernel
theorem dX13_bears_43 : decode cX13_bears 43 = .ok (.iconst 2, 1) := by decide +kernel
theorem dX13_bears_44 : decode cX13_bears 44 = .ok (.idiv, 1) := by decide +kernel
theorem dX13_bears_45 : decode cX13_bears 45 = .ok (.ireturn, 1) := by decide +kernel
theorem dX13_holds_0 : decode cX13_holds 0 = .ok (.aload_n 0, 1) := by decide +kernel
theorem dX13_holds_1 : decode cX13_holds 1 = .ok (.iload_n 1, 1) := by decide +kernel
theorem dX13_holds_2 : decode cX13_holds 2 = .ok (.iload_n 2, 1) := by decide +kernel
theorem dX13_holds_3 : decode cX13_holds 3 = .ok (.invokevirtual 525, 3) := by decide +kernel
theorem dX13_holds_6 : decode cX13_holds 6 = .ok (.aload_n 0, 1) := by decide +kernel
theorem dX13_holds_7 : decode cX13_holds 7 = .ok (.iload_n 1, 1) := by decide +kernel
theorem dX13_holds_8 : decode cX13_holds 8 = .ok (.iload_n 2, 1) := by decide +kernel
theorem dX13_holds_9 : decode cX13_holds 9 = .ok (.invokevirtual 528, 3) := by decide +kernel
theorem dX13_holds_12 : decode cX13_holds 12 = .ok (.if_icmp .lt 7, 3) := by decide +kernel
theorem dX13_holds_15 : decode cX13_holds 15 = .ok (.iconst 1, 1) := by decide +kernel
theorem dX13_holds_16 : decode cX13_holds 16 = .ok (.goto 4, 3) := by decide +kernel
theorem dX13_holds_19 : decode cX13_holds 19 = .ok (.iconst 0, 1) := by decide +kernel
theorem dX13_holds_20 : decode cX13_holds 20 = .ok (.ireturn, 1) := by decide +kernel
theorem dX13_allHold_0 : decode cX13_allHold 0 = .ok (.iconst 0, 1) := by decide +kernel
theorem dX13_allHold_1 : decode cX13_allHold 1 = .ok (.istore_n 3, 1) := by decide +kernel
theorem dX13_allHold_2 : decode cX13_allHold 2 = .ok (.iload_n 3, 1) := by decide +kernel
theorem dX13_allHold_3 : decode cX13_allHold 3 = .ok (.aload_n 0, 1) := by decide +kernel
theorem dX13_allHold_4 : decode cX13_allHold 4 = .ok (.getfield 63, 3) := by decide +kernel
theorem dX13_allHold_7 : decode cX13_allHold 7 = .ok (.aload_n 0, 1) := by decide +kernel
theorem dX13_allHold_8 : decode cX13_allHold 8 = .ok (.getfield 51, 3) := by decide +kernel
theorem dX13_allHold_11 : decode cX13_allHold 11 = .ok (.iaload, 1) := by decide +kernel
theorem dX13_allHold_12 : decode cX13_allHold 12 = .ok (.if_icmp .ge 30, 3) := by decide +kernel
theorem dX13_allHold_15 : decode cX13_allHold 15 = .ok (.aload_n 0, 1) := by decide +kernel
theorem dX13_allHold_16 : decode cX13_allHold 16 = .ok (.iload_n 1, 1) := by decide +kernel
theorem dX13_allHold_17 : decode cX13_allHold 17 = .ok (.iload_n 3, 1) := by decide +kernel
theorem dX13_allHold_18 : decode cX13_allHold 18 = .ok (.invokevirtual 507, 3) := by decide +kernel
theorem dX13_allHold_21 : decode cX13_allHold 21 = .ok (.iload_n 2, 1) := by decide +kernel
theorem dX13_allHold_22 : decode cX13_allHold 22 = .ok (.if_icmp .ne 14, 3) := by decide +kernel
theorem dX13_allHold_25 : decode cX13_allHold 25 = .ok (.aload_n 0, 1) := by decide +kernel
theorem dX13_allHold_26 : decode cX13_allHold 26 = .ok (.iload_n 1, 1) := by decide +kernel
theorem dX13_allHold_27 : decode cX13_allHold 27 = .ok (.iload_n 3, 1) := by decide +kernel
theorem dX13_allHold_28 : decode cX13_allHold 28 = .ok (.invokevirtual 531, 3) := by decide +kernel
theorem dX13_allHold_31 : decode cX13_allHold 31 = .ok (.ifCond .ne 5, 3) := by decide +kernel
theorem dX13_allHold_34 : decode cX13_allHold 34 = .ok (.iconst 0, 1) := by decide +kernel
theorem dX13_allHold_35 : decode cX13_allHold 35 = .ok (.ireturn, 1) := by decide +kernel
theorem dX13_allHold_36 : decode cX13_allHold 36 = .ok (.iinc 3 1, 3) := by decide +kernel
theorem dX13_allHold_39 : decode cX13_allHold 39 = .ok (.goto (-37), 3) := by decide +kernel
theorem dX13_allHold_42 : decode cX13_allHold 42 = .ok (.iconst 1, 1) := by decide +kernel
theorem dX13_allHold_43 : decode cX13_allHold 43 = .ok (.ireturn, 1) := by decide +kernel
theorem dX13_writesDown_0 : decode cX13_writesDown 0 = .ok (.aload_n 0, 1) := by decide +kernel
theorem dX13_writesDown_1 : decode cX13_writesDown 1 = .ok (.getfield 183, 3) := by decide +kernel
theorem dX13_writesDown_4 : decode cX13_writesDown 4 = .ok (.iload_n 1, 1) := by decide +kernel
theorem dX13_writesDown_5 : decode cX13_writesDown 5 = .ok (.iaload, 1) := by decide +kernel
theorem dX13_writesDown_6 : decode cX13_writesDown 6 = .ok (.bipush 60, 2) := by decide +kernel
theorem dX13_writesDown_8 : decode cX13_writesDown 8 = .ok (.if_icmp .ne 58, 3) := by decide +kernel
theorem dX13_writesDown_11 : decode cX13_writesDown 11 = .ok (.sipush 240, 3) := by decide +kernel
theorem dX13_writesDown_14 : decode cX13_writesDown 14 = .ok (.iload_n 1, 1) := by decide +kernel
theorem dX13_writesDown_15 : decode cX13_writesDown 15 = .ok (.imul, 1) := by decide +kernel
theorem dX13_writesDown_16 : decode cX13_writesDown 16 = .ok (.istore 5, 2) := by decide +kernel
theorem dX13_writesDown_18 : decode cX13_writesDown 18 = .ok (.iload 5, 2) := by decide +kernel
theorem dX13_writesDown_20 : decode cX13_writesDown 20 = .ok (.sipush 240, 3) := by decide +kernel
theorem dX13_writesDown_23 : decode cX13_writesDown 23 = .ok (.iload_n 1, 1) := by decide +kernel
theorem dX13_writesDown_24 : decode cX13_writesDown 24 = .ok (.imul, 1) := by decide +kernel
theorem dX13_writesDown_25 : decode cX13_writesDown 25 = .ok (.sipush 240, 3) := by decide +kernel
theorem dX13_writesDown_28 : decode cX13_writesDown 28 = .ok (.iadd, 1) := by decide +kernel
theorem dX13_writesDown_29 : decode cX13_writesDown 29 = .ok (.iconst 4, 1) := by decide +kernel
theorem dX13_writesDown_30 : decode cX13_writesDown 30 = .ok (.isub, 1) := by decide +kernel
theorem dX13_writesDown_31 : decode cX13_writesDown 31 = .ok (.if_icmp .ge 25, 3) := by decide +kernel
theorem dX13_writesDown_34 : decode cX13_writesDown 34 = .ok (.aload_n 0, 1) := by decide +kernel
theorem dX13_writesDown_35 : decode cX13_writesDown 35 = .ok (.getfield 186, 3) := by decide +kernel
theorem dX13_writesDown_38 : decode cX13_writesDown 38 = .ok (.iload 5, 2) := by decide +kernel
theorem dX13_writesDown_40 : decode cX13_writesDown 40 = .ok (.aload_n 0, 1) := by decide +kernel
theorem dX13_writesDown_41 : decode cX13_writesDown 41 = .ok (.getfield 186, 3) := by decide +kernel
theorem dX13_writesDown_44 : decode cX13_writesDown 44 = .ok (.iload 5, 2) := by decide +kernel
theorem dX13_writesDown_46 : decode cX13_writesDown 46 = .ok (.iconst 4, 1) := by decide +kernel
theorem dX13_writesDown_47 : decode cX13_writesDown 47 = .ok (.iadd, 1) := by decide +kernel
theorem dX13_writesDown_48 : decode cX13_writesDown 48 = .ok (.iaload, 1) := by decide +kernel
theorem dX13_writesDown_49 : decode cX13_writesDown 49 = .ok (.iastore, 1) := by decide +kernel
theorem dX13_writesDown_50 : decode cX13_writesDown 50 = .ok (.iinc 5 1, 3) := by decide +kernel
theorem dX13_writesDown_53 : decode cX13_writesDown 53 = .ok (.goto (-35), 3) := by decide +kernel
theorem dX13_writesDown_56 : decode cX13_writesDown 56 = .ok (.aload_n 0, 1) := by decide +kernel
theorem dX13_writesDown_57 : decode cX13_writesDown 57 = .ok (.getfield 183, 3) := by decide +kernel
theorem dX13_writesDown_60 : decode cX13_writesDown 60 = .ok (.iload_n 1, 1) := by decide +kernel
theorem dX13_writesDown_61 : decode cX13_writesDown 61 = .ok (.dup2, 1) := by decide +kernel
theorem dX13_writesDown_62 : decode cX13_writesDown 62 = .ok (.iaload, 1) := by decide +kernel
theorem dX13_writesDown_63 : decode cX13_writesDown 63 = .ok (.iconst 1, 1) := by decide +kernel
theorem dX13_writesDown_64 : decode cX13_writesDown 64 = .ok (.isub, 1) := by decide +kernel
theorem dX13_writesDown_65 : decode cX13_writesDown 65 = .ok (.iastore, 1) := by decide +kernel
theorem dX13_writesDown_66 : decode cX13_writesDown 66 = .ok (.iconst 4, 1) := by decide +kernel
theorem dX13_writesDown_67 : decode cX13_writesDown 67 = .ok (.bipush 60, 2) := by decide +kernel
theorem dX13_writesDown_69 : decode cX13_writesDown 69 = .ok (.iload_n 1, 1) := by decide +kernel
theorem dX13_writesDown_70 : decode cX13_writesDown 70 = .ok (.imul, 1) := by decide +kernel
theorem dX13_writesDown_71 : decode cX13_writesDown 71 = .ok (.aload_n 0, 1) := by decide +kernel
theorem dX13_writesDown_72 : decode cX13_writesDown 72 = .ok (.getfield 183, 3) := by decide +kernel
theorem dX13_writesDown_75 : decode cX13_writesDown 75 = .ok (.iload_n 1, 1) := by decide +kernel
theorem dX13_writesDown_76 : decode cX13_writesDown 76 = .ok (.iaload, 1) := by decide +kernel
theorem dX13_writesDown_77 : decode cX13_writesDown 77 = .ok (.iadd, 1) := by decide +kernel
theorem dX13_writesDown_78 : decode cX13_writesDown 78 = .ok (.imul, 1) := by decide +kernel
theorem dX13_writesDown_79 : decode cX13_writesDown 79 = .ok (.istore 5, 2) := by decide +kernel
theorem dX13_writesDown_81 : decode cX13_writesDown 81 = .ok (.aload_n 0, 1) := by decide +kernel
theorem dX13_writesDown_82 : decode cX13_writesDown 82 = .ok (.getfield 186, 3) := by decide +kernel
theorem dX13_writesDown_85 : decode cX13_writesDown 85 = .ok (.iload 5, 2) := by decide +kernel
theorem dX13_writesDown_87 : decode cX13_writesDown 87 = .ok (.aload_n 0, 1) := by decide +kernel
theorem dX13_writesDown_88 : decode cX13_writesDown 88 = .ok (.getfield 162, 3) := by decide +kernel
theorem dX13_writesDown_91 : decode cX13_writesDown 91 = .ok (.iload_n 1, 1) := by decide +kernel
theorem dX13_writesDown_92 : decode cX13_writesDown 92 = .ok (.iaload, 1) := by decide +kernel
theorem dX13_writesDown_93 : decode cX13_writesDown 93 = .ok (.iastore, 1) := by decide +kernel
theorem dX13_writesDown_94 : decode cX13_writesDown 94 = .ok (.aload_n 0, 1) := by decide +kernel
theorem dX13_writesDown_95 : decode cX13_writesDown 95 = .ok (.getfield 186, 3) := by decide +kernel
theorem dX13_writesDown_98 : decode cX13_writesDown 98 = .ok (.iload 5, 2) := by decide +kernel
theorem dX13_writesDown_100 : decode cX13_writesDown 100 = .ok (.iconst 1, 1) := by decide +kernel
theorem dX13_writesDown_101 : decode cX13_writesDown 101 = .ok (.iadd, 1) := by decide +kernel
theorem dX13_writesDown_102 : decode cX13_writesDown 102 = .ok (.iload_n 2, 1) := by decide +kernel
theorem dX13_writesDown_103 : decode cX13_writesDown 103 = .ok (.iastore, 1) := by decide +kernel
theorem dX13_writesDown_104 : decode cX13_writesDown 104 = .ok (.aload_n 0, 1) := by decide +kernel
theorem dX13_writesDown_105 : decode cX13_writesDown 105 = .ok (.getfield 186, 3) := by decide +kernel
theorem dX13_writesDown_108 : decode cX13_writesDown 108 = .ok (.iload 5, 2) := by decide +kernel
theorem dX13_writesDown_110 : decode cX13_writesDown 110 = .ok (.iconst 2, 1) := by decide +kernel
theorem dX13_writesDown_111 : decode cX13_writesDown 111 = .ok (.iadd, 1) := by decide +kernel
theorem dX13_writesDown_112 : decode cX13_writesDown 112 = .ok (.iload_n 3, 1) := by decide +kernel
theorem dX13_writesDown_113 : decode cX13_writesDown 113 = .ok (.iastore, 1) := by decide +kernel
theorem dX13_writesDown_114 : decode cX13_writesDown 114 = .ok (.aload_n 0, 1) := by decide +kernel
theorem dX13_writesDown_115 : decode cX13_writesDown 115 = .ok (.getfield 186, 3) := by decide +kernel
theorem dX13_writesDown_118 : decode cX13_writesDown 118 = .ok (.iload 5, 2) := by decide +kernel
theorem dX13_writesDown_120 : decode cX13_writesDown 120 = .ok (.iconst 3, 1) := by decide +kernel
theorem dX13_writesDown_121 : decode cX13_writesDown 121 = .ok (.iadd, 1) := by decide +kernel
theorem dX13_writesDown_122 : decode cX13_writesDown 122 = .ok (.iload 4, 2) := by decide +kernel
theorem dX13_writesDown_124 : decode cX13_writesDown 124 = .ok (.iastore, 1) := by decide +kernel
theorem dX13_writesDown_125 : decode cX13_writesDown 125 = .ok (.aload_n 0, 1) := by decide +kernel
theorem dX13_writesDown_126 : decode cX13_writesDown 126 = .ok (.getfield 183, 3) := by decide +kernel
theorem dX13_writesDown_129 : decode cX13_writesDown 129 = .ok (.iload_n 1, 1) := by decide +kernel
theorem dX13_writesDown_130 : decode cX13_writesDown 130 = .ok (.dup2, 1) := by decide +kernel
theorem dX13_writesDown_131 : decode cX13_writesDown 131 = .ok (.iaload, 1) := by decide +kernel
theorem dX13_writesDown_132 : decode cX13_writesDown 132 = .ok (.iconst 1, 1) := by decide +kernel
theorem dX13_writesDown_133 : decode cX13_writesDown 133 = .ok (.iadd, 1) := by decide +kernel
theorem dX13_writesDown_134 : decode cX13_writesDown 134 = .ok (.iastore, 1) := by decide +kernel
theorem dX13_writesDown_135 : decode cX13_writesDown 135 = .ok (.return_, 1) := by decide +kernel
theorem dX13_takesDown_0 : decode cX13_takesDown 0 = .ok (.aload_n 0, 1) := by decide +kernel
theorem dX13_takesDown_1 : decode cX13_takesDown 1 = .ok (.iload_n 1, 1) := by decide +kernel
theorem dX13_takesDown_2 : decode cX13_takesDown 2 = .ok (.iload_n 2, 1) := by decide +kernel
theorem dX13_takesDown_3 : decode cX13_takesDown 3 = .ok (.invokevirtual 507, 3) := by decide +kernel
theorem dX13_takesDown_6 : decode cX13_takesDown 6 = .ok (.istore_n 3, 1) := by decide +kernel
theorem dX13_takesDown_7 : decode cX13_takesDown 7 = .ok (.aload_n 0, 1) := by decide +kernel
theorem dX13_takesDown_8 : decode cX13_takesDown 8 = .ok (.iload_n 1, 1) := by decide +kernel
theorem dX13_takesDown_9 : decode cX13_takesDown 9 = .ok (.iload_n 2, 1) := by decide +kernel
theorem dX13_takesDown_10 : decode cX13_takesDown 10 = .ok (.invokevirtual 510, 3) := by decide +kernel
theorem dX13_takesDown_13 : decode cX13_takesDown 13 = .ok (.istore 4, 2) := by decide +kernel
theorem dX13_takesDown_15 : decode cX13_takesDown 15 = .ok (.iconst 0, 1) := by decide +kernel
theorem dX13_takesDown_16 : decode cX13_takesDown 16 = .ok (.istore 5, 2) := by decide +kernel
theorem dX13_takesDown_18 : decode cX13_takesDown 18 = .ok (.aload_n 0, 1) := by decide +kernel
theorem dX13_takesDown_19 : decode cX13_takesDown 19 = .ok (.iload_n 1, 1) := by decide +kernel
theorem dX13_takesDown_20 : decode cX13_takesDown 20 = .ok (.iload_n 2, 1) := by decide +kernel
theorem dX13_takesDown_21 : decode cX13_takesDown 21 = .ok (.invokevirtual 513, 3) := by decide +kernel
theorem dX13_takesDown_24 : decode cX13_takesDown 24 = .ok (.istore 6, 2) := by decide +kernel
theorem dX13_takesDown_26 : decode cX13_takesDown 26 = .ok (.iload 6, 2) := by decide +kernel
theorem dX13_takesDown_28 : decode cX13_takesDown 28 = .ok (.iconst 4, 1) := by decide +kernel
theorem dX13_takesDown_29 : decode cX13_takesDown 29 = .ok (.if_icmp .ge 48, 3) := by decide +kernel
theorem dX13_takesDown_32 : decode cX13_takesDown 32 = .ok (.aload_n 0, 1) := by decide +kernel
theorem dX13_takesDown_33 : decode cX13_takesDown 33 = .ok (.iload_n 1, 1) := by decide +kernel
theorem dX13_takesDown_34 : decode cX13_takesDown 34 = .ok (.iload_n 3, 1) := by decide +kernel
theorem dX13_takesDown_35 : decode cX13_takesDown 35 = .ok (.iload 4, 2) := by decide +kernel
theorem dX13_takesDown_37 : decode cX13_takesDown 37 = .ok (.iload 6, 2) := by decide +kernel
theorem dX13_takesDown_39 : decode cX13_takesDown 39 = .ok (.invokevirtual 534, 3) := by decide +kernel
theorem dX13_takesDown_42 : decode cX13_takesDown 42 = .ok (.istore 7, 2) := by decide +kernel
theorem dX13_takesDown_44 : decode cX13_takesDown 44 = .ok (.iload 7, 2) := by decide +kernel
theorem dX13_takesDown_46 : decode cX13_takesDown 46 = .ok (.iconst (-1), 1) := by decide +kernel
theorem dX13_takesDown_47 : decode cX13_takesDown 47 = .ok (.if_icmp .ne 6, 3) := by decide +kernel
theorem dX13_takesDown_50 : decode cX13_takesDown 50 = .ok (.goto 27, 3) := by decide +kernel
theorem dX13_takesDown_53 : decode cX13_takesDown 53 = .ok (.iload 5, 2) := by decide +kernel
theorem dX13_takesDown_55 : decode cX13_takesDown 55 = .ok (.iconst 1, 1) := by decide +kernel
theorem dX13_takesDown_56 : decode cX13_takesDown 56 = .ok (.iload 7, 2) := by decide +kernel
theorem dX13_takesDown_58 : decode cX13_takesDown 58 = .ok (.ishl, 1) := by decide +kernel
theorem dX13_takesDown_59 : decode cX13_takesDown 59 = .ok (.ior, 1) := by decide +kernel
theorem dX13_takesDown_60 : decode cX13_takesDown 60 = .ok (.istore 5, 2) := by decide +kernel
theorem dX13_takesDown_62 : decode cX13_takesDown 62 = .ok (.aload_n 0, 1) := by decide +kernel
theorem dX13_takesDown_63 : decode cX13_takesDown 63 = .ok (.iload_n 1, 1) := by decide +kernel
theorem dX13_takesDown_64 : decode cX13_takesDown 64 = .ok (.iload 7, 2) := by decide +kernel
theorem dX13_takesDown_66 : decode cX13_takesDown 66 = .ok (.iload_n 3, 1) := by decide +kernel
theorem dX13_takesDown_67 : decode cX13_takesDown 67 = .ok (.iconst 0, 1) := by decide +kernel
theorem dX13_takesDown_68 : decode cX13_takesDown 68 = .ok (.invokevirtual 538, 3) := by decide +kernel
theorem dX13_takesDown_71 : decode cX13_takesDown 71 = .ok (.iinc 6 1, 3) := by decide +kernel
theorem dX13_takesDown_74 : decode cX13_takesDown 74 = .ok (.goto (-48), 3) := by decide +kernel
theorem dX13_takesDown_77 : decode cX13_takesDown 77 = .ok (.iconst 0, 1) := by decide +kernel
theorem dX13_takesDown_78 : decode cX13_takesDown 78 = .ok (.istore 6, 2) := by decide +kernel
theorem dX13_takesDown_80 : decode cX13_takesDown 80 = .ok (.iload 6, 2) := by decide +kernel
theorem dX13_takesDown_82 : decode cX13_takesDown 82 = .ok (.aload_n 0, 1) := by decide +kernel
theorem dX13_takesDown_83 : decode cX13_takesDown 83 = .ok (.getfield 63, 3) := by decide +kernel
theorem dX13_takesDown_86 : decode cX13_takesDown 86 = .ok (.aload_n 0, 1) := by decide +kernel
theorem dX13_takesDown_87 : decode cX13_takesDown 87 = .ok (.getfield 51, 3) := by decide +kernel
theorem dX13_takesDown_90 : decode cX13_takesDown 90 = .ok (.iaload, 1) := by decide +kernel
theorem dX13_takesDown_91 : decode cX13_takesDown 91 = .ok (.if_icmp .ge 61, 3) := by decide +kernel
theorem dX13_takesDown_94 : decode cX13_takesDown 94 = .ok (.iload 5, 2) := by decide +kernel
theorem dX13_takesDown_96 : decode cX13_takesDown 96 = .ok (.iload 6, 2) := by decide +kernel
theorem dX13_takesDown_98 : decode cX13_takesDown 98 = .ok (.invokestatic 389, 3) := by decide +kernel
theorem dX13_takesDown_101 : decode cX13_takesDown 101 = .ok (.ifCond .ne 6, 3) := by decide +kernel
theorem dX13_takesDown_104 : decode cX13_takesDown 104 = .ok (.goto 42, 3) := by decide +kernel
theorem dX13_takesDown_107 : decode cX13_takesDown 107 = .ok (.aload_n 0, 1) := by decide +kernel
theorem dX13_takesDown_108 : decode cX13_takesDown 108 = .ok (.getfield 174, 3) := by decide +kernel
theorem dX13_takesDown_111 : decode cX13_takesDown 111 = .ok (.bipush 8, 2) := by decide +kernel
theorem dX13_takesDown_113 : decode cX13_takesDown 113 = .ok (.iload_n 1, 1) := by decide +kernel
theorem dX13_takesDown_114 : decode cX13_takesDown 114 = .ok (.imul, 1) := by decide +kernel
theorem dX13_takesDown_115 : decode cX13_takesDown 115 = .ok (.iload 6, 2) := by decide +kernel
theorem dX13_takesDown_117 : decode cX13_takesDown 117 = .ok (.iadd, 1) := by decide +kernel
theorem dX13_takesDown_118 : decode cX13_takesDown 118 = .ok (.iconst (-1), 1) := by decide +kernel
theorem dX13_takesDown_119 : decode cX13_takesDown 119 = .ok (.iastore, 1) := by decide +kernel
theorem dX13_takesDown_120 : decode cX13_takesDown 120 = .ok (.aload_n 0, 1) := by decide +kernel
theorem dX13_takesDown_121 : decode cX13_takesDown 121 = .ok (.getfield 177, 3) := by decide +kernel
theorem dX13_takesDown_124 : decode cX13_takesDown 124 = .ok (.bipush 8, 2) := by decide +kernel
theorem dX13_takesDown_126 : decode cX13_takesDown 126 = .ok (.iload_n 1, 1) := by decide +kernel
theorem dX13_takesDown_127 : decode cX13_takesDown 127 = .ok (.imul, 1) := by decide +kernel
theorem dX13_takesDown_128 : decode cX13_takesDown 128 = .ok (.iload 6, 2) := by decide +kernel
theorem dX13_takesDown_130 : decode cX13_takesDown 130 = .ok (.iadd, 1) := by decide +kernel
theorem dX13_takesDown_131 : decode cX13_takesDown 131 = .ok (.iconst 0, 1) := by decide +kernel
theorem dX13_takesDown_132 : decode cX13_takesDown 132 = .ok (.iastore, 1) := by decide +kernel
theorem dX13_takesDown_133 : decode cX13_takesDown 133 = .ok (.aload_n 0, 1) := by decide +kernel
theorem dX13_takesDown_134 : decode cX13_takesDown 134 = .ok (.getfield 180, 3) := by decide +kernel
theorem dX13_takesDown_137 : decode cX13_takesDown 137 = .ok (.bipush 8, 2) := by decide +kernel
theorem dX13_takesDown_139 : decode cX13_takesDown 139 = .ok (.iload_n 1, 1) := by decide +kernel
theorem dX13_takesDown_140 : decode cX13_takesDown 140 = .ok (.imul, 1) := by decide +kernel
theorem dX13_takesDown_141 : decode cX13_takesDown 141 = .ok (.iload 6, 2) := by decide +kernel
theorem dX13_takesDown_143 : decode cX13_takesDown 143 = .ok (.iadd, 1) := by decide +kernel
theorem dX13_takesDown_144 : decode cX13_takesDown 144 = .ok (.iconst 0, 1) := by decide +kernel
theorem dX13_takesDown_145 : decode cX13_takesDown 145 = .ok (.iastore, 1) := by decide +kernel
theorem dX13_takesDown_146 : decode cX13_takesDown 146 = .ok (.iinc 6 1, 3) := by decide +kernel
theorem dX13_takesDown_149 : decode cX13_takesDown 149 = .ok (.goto (-69), 3) := by decide +kernel
theorem dX13_takesDown_152 : decode cX13_takesDown 152 = .ok (.iload 5, 2) := by decide +kernel
theorem dX13_takesDown_154 : decode cX13_takesDown 154 = .ok (.ireturn, 1) := by decide +kernel
theorem dX13_loose_0 : decode cX13_loose 0 = .ok (.iconst 0, 1) := by decide +kernel
theorem dX13_loose_1 : decode cX13_loose 1 = .ok (.istore_n 2, 1) := by decide +kernel
theorem dX13_loose_2 : decode cX13_loose 2 = .ok (.iload_n 2, 1) := by decide +kernel
theorem dX13_loose_3 : decode cX13_loose 3 = .ok (.aload_n 0, 1) := by decide +kernel
theorem dX13_loose_4 : decode cX13_loose 4 = .ok (.getfield 84, 3) := by decide +kernel
theorem dX13_loose_7 : decode cX13_loose 7 = .ok (.aload_n 0, 1) := by decide +kernel
theorem dX13_loose_8 : decode cX13_loose 8 = .ok (.getfield 51, 3) := by decide +kernel
theorem dX13_loose_11 : decode cX13_loose 11 = .ok (.iaload, 1) := by decide +kernel
theorem dX13_loose_12 : decode cX13_loose 12 = .ok (.if_icmp .ge 67, 3) := by decide +kernel
theorem dX13_loose_15 : decode cX13_loose 15 = .ok (.iconst 0, 1) := by decide +kernel
theorem dX13_loose_16 : decode cX13_loose 16 = .ok (.istore_n 3, 1) := by decide +kernel
theorem dX13_loose_17 : decode cX13_loose 17 = .ok (.iload_n 3, 1) := by decide +kernel
theorem dX13_loose_18 : decode cX13_loose 18 = .ok (.iconst 4, 1) := by decide +kernel
theorem dX13_loose_19 : decode cX13_loose 19 = .ok (.if_icmp .ge 54, 3) := by decide +kernel
theorem dX13_loose_22 : decode cX13_loose 22 = .ok (.iconst 0, 1) := by decide +kernel
theorem dX13_loose_23 : decode cX13_loose 23 = .ok (.istore 4, 2) := by decide +kernel
theorem dX13_loose_25 : decode cX13_loose 25 = .ok (.iload 4, 2) := by decide +kernel
theorem dX13_loose_27 : decode cX13_loose 27 = .ok (.iconst 4, 1) := by decide +kernel
theorem dX13_loose_28 : decode cX13_loose 28 = .ok (.if_icmp .ge 39, 3) := by decide +kernel
theorem dX13_loose_31 : decode cX13_loose 31 = .ok (.aload_n 0, 1) := by decide +kernel
theorem dX13_loose_32 : decode cX13_loose 32 = .ok (.iload_n 1, 1) := by decide +kernel
theorem dX13_loose_33 : decode cX13_loose 33 = .ok (.iload_n 2, 1) := by decide +kernel
theorem dX13_loose_34 : decode cX13_loose 34 = .ok (.iload_n 3, 1) := by decide +kernel
theorem dX13_loose_35 : decode cX13_loose 35 = .ok (.iload 4, 2) := by decide +kernel
theorem dX13_loose_37 : decode cX13_loose 37 = .ok (.invokevirtual 534, 3) := by decide +kernel
theorem dX13_loose_40 : decode cX13_loose 40 = .ok (.istore 5, 2) := by decide +kernel
theorem dX13_loose_42 : decode cX13_loose 42 = .ok (.iload 5, 2) := by decide +kernel
theorem dX13_loose_44 : decode cX13_loose 44 = .ok (.iconst (-1), 1) := by decide +kernel
theorem dX13_loose_45 : decode cX13_loose 45 = .ok (.if_icmp .eq 16, 3) := by decide +kernel
theorem dX13_loose_48 : decode cX13_loose 48 = .ok (.aload_n 0, 1) := by decide +kernel
theorem dX13_loose_49 : decode cX13_loose 49 = .ok (.iload_n 1, 1) := by decide +kernel
theorem dX13_loose_50 : decode cX13_loose 50 = .ok (.iload 5, 2) := by decide +kernel
theorem dX13_loose_52 : decode cX13_loose 52 = .ok (.invokevirtual 531, 3) := by decide +kernel
theorem dX13_loose_55 : decode cX13_loose 55 = .ok (.ifCond .ne 6, 3) := by decide +kernel
theorem dX13_loose_58 : decode cX13_loose 58 = .ok (.iload 5, 2) := by decide +kernel
theorem dX13_loose_60 : decode cX13_loose 60 = .ok (.ireturn, 1) := by decide +kernel
theorem dX13_loose_61 : decode cX13_loose 61 = .ok (.iinc 4 1, 3) := by decide +kernel
theorem dX13_loose_64 : decode cX13_loose 64 = .ok (.goto (-39), 3) := by decide +kernel
theorem dX13_loose_67 : decode cX13_loose 67 = .ok (.iinc 3 1, 3) := by decide +kernel
theorem dX13_loose_70 : decode cX13_loose 70 = .ok (.goto (-53), 3) := by decide +kernel
theorem dX13_loose_73 : decode cX13_loose 73 = .ok (.iinc 2 1, 3) := by decide +kernel
theorem dX13_loose_76 : decode cX13_loose 76 = .ok (.goto (-74), 3) := by decide +kernel
theorem dX13_loose_79 : decode cX13_loose 79 = .ok (.iconst (-1), 1) := by decide +kernel
theorem dX13_loose_80 : decode cX13_loose 80 = .ok (.ireturn, 1) := by decide +kernel
theorem dX13_falls_0 : decode cX13_falls 0 = .ok (.iconst 0, 1) := by decide +kernel
theorem dX13_falls_1 : decode cX13_falls 1 = .ok (.istore_n 2, 1) := by decide +kernel
theorem dX13_falls_2 : decode cX13_falls 2 = .ok (.aload_n 0, 1) := by decide +kernel
theorem dX13_falls_3 : decode cX13_falls 3 = .ok (.iload_n 1, 1) := by decide +kernel
theorem dX13_falls_4 : decode cX13_falls 4 = .ok (.invokevirtual 541, 3) := by decide +kernel
theorem dX13_falls_7 : decode cX13_falls 7 = .ok (.istore_n 3, 1) := by decide +kernel
theorem dX13_falls_8 : decode cX13_falls 8 = .ok (.iload_n 3, 1) := by decide +kernel
theorem dX13_falls_9 : decode cX13_falls 9 = .ok (.iconst (-1), 1) := by decide +kernel
theorem dX13_falls_10 : decode cX13_falls 10 = .ok (.if_icmp .eq 21, 3) := by decide +kernel
theorem dX13_falls_13 : decode cX13_falls 13 = .ok (.iload_n 2, 1) := by decide +kernel
theorem dX13_falls_14 : decode cX13_falls 14 = .ok (.aload_n 0, 1) := by decide +kernel
theorem dX13_falls_15 : decode cX13_falls 15 = .ok (.iload_n 1, 1) := by decide +kernel
theorem dX13_falls_16 : decode cX13_falls 16 = .ok (.iload_n 3, 1) := by decide +kernel
theorem dX13_falls_17 : decode cX13_falls 17 = .ok (.invokevirtual 544, 3) := by decide +kernel
theorem dX13_falls_20 : decode cX13_falls 20 = .ok (.ior, 1) := by decide +kernel
theorem dX13_falls_21 : decode cX13_falls 21 = .ok (.istore_n 2, 1) := by decide +kernel
theorem dX13_falls_22 : decode cX13_falls 22 = .ok (.aload_n 0, 1) := by decide +kernel
theorem dX13_falls_23 : decode cX13_falls 23 = .ok (.iload_n 1, 1) := by decide +kernel
theorem dX13_falls_24 : decode cX13_falls 24 = .ok (.invokevirtual 541, 3) := by decide +kernel
theorem dX13_falls_27 : decode cX13_falls 27 = .ok (.istore_n 3, 1) := by decide +kernel
theorem dX13_falls_28 : decode cX13_falls 28 = .ok (.goto (-20), 3) := by decide +kernel
theorem dX13_falls_31 : decode cX13_falls 31 = .ok (.iload_n 2, 1) := by decide +kernel
theorem dX13_falls_32 : decode cX13_falls 32 = .ok (.ireturn, 1) := by decide +kernel
theorem dX13_isFeud_0 : decode cX13_isFeud 0 = .ok (.iload_n 3, 1) := by decide +kernel
theorem dX13_isFeud_1 : decode cX13_isFeud 1 = .ok (.iconst (-1), 1) := by decide +kernel
theorem dX13_isFeud_2 : decode cX13_isFeud 2 = .ok (.if_icmp .eq 29, 3) := by decide +kernel
theorem dX13_isFeud_5 : decode cX13_isFeud 5 = .ok (.aload_n 0, 1) := by decide +kernel
theorem dX13_isFeud_6 : decode cX13_isFeud 6 = .ok (.aload_n 0, 1) := by decide +kernel
theorem dX13_isFeud_7 : decode cX13_isFeud 7 = .ok (.getfield 51, 3) := by decide +kernel
theorem dX13_isFeud_10 : decode cX13_isFeud 10 = .ok (.iload_n 2, 1) := by decide +kernel
theorem dX13_isFeud_11 : decode cX13_isFeud 11 = .ok (.aload_n 0, 1) := by decide +kernel
theorem dX13_isFeud_12 : decode cX13_isFeud 12 = .ok (.getfield 165, 3) := by decide +kernel
theorem dX13_isFeud_15 : decode cX13_isFeud 15 = .ok (.iload_n 1, 1) := by decide +kernel
theorem dX13_isFeud_16 : decode cX13_isFeud 16 = .ok (.iaload, 1) := by decide +kernel
theorem dX13_isFeud_17 : decode cX13_isFeud 17 = .ok (.invokevirtual 415, 3) := by decide +kernel
theorem dX13_isFeud_20 : decode cX13_isFeud 20 = .ok (.iload_n 3, 1) := by decide +kernel
theorem dX13_isFeud_21 : decode cX13_isFeud 21 = .ok (.invokestatic 389, 3) := by decide +kernel
theorem dX13_isFeud_24 : decode cX13_isFeud 24 = .ok (.ifCond .eq 7, 3) := by decide +kernel
theorem dX13_isFeud_27 : decode cX13_isFeud 27 = .ok (.iconst 1, 1) := by decide +kernel
theorem dX13_isFeud_28 : decode cX13_isFeud 28 = .ok (.goto 4, 3) := by decide +kernel
theorem dX13_isFeud_31 : decode cX13_isFeud 31 = .ok (.iconst 0, 1) := by decide +kernel
theorem dX13_isFeud_32 : decode cX13_isFeud 32 = .ok (.ireturn, 1) := by decide +kernel
theorem dX13_goesInto_0 : decode cX13_goesInto 0 = .ok (.iconst 0, 1) := by decide +kernel
theorem dX13_goesInto_1 : decode cX13_goesInto 1 = .ok (.istore 4, 2) := by decide +kernel
theorem dX13_goesInto_3 : decode cX13_goesInto 3 = .ok (.iconst 1, 1) := by decide +kernel
theorem dX13_goesInto_4 : decode cX13_goesInto 4 = .ok (.istore 5, 2) := by decide +kernel
theorem dX13_goesInto_6 : decode cX13_goesInto 6 = .ok (.iload 5, 2) := by decide +kernel
theorem dX13_goesInto_8 : decode cX13_goesInto 8 = .ok (.aload_n 0, 1) := by decide +kernel
theorem dX13_goesInto_9 : decode cX13_goesInto 9 = .ok (.getfield 87, 3) := by decide +kernel
theorem dX13_goesInto_12 : decode cX13_goesInto 12 = .ok (.iconst 4, 1) := by decide +kernel
theorem dX13_goesInto_13 : decode cX13_goesInto 13 = .ok (.aload_n 0, 1) := by decide +kernel
theorem dX13_goesInto_14 : decode cX13_goesInto 14 = .ok (.getfield 51, 3) := by decide +kernel
theorem dX13_goesInto_17 : decode cX13_goesInto 17 = .ok (.imul, 1) := by decide +kernel
theorem dX13_goesInto_18 : decode cX13_goesInto 18 = .ok (.iload_n 3, 1) := by decide +kernel
theorem dX13_goesInto_19 : decode cX13_goesInto 19 = .ok (.iadd, 1) := by decide +kernel
theorem dX13_goesInto_20 : decode cX13_goesInto 20 = .ok (.iaload, 1) := by decide +kernel
theorem dX13_goesInto_21 : decode cX13_goesInto 21 = .ok (.if_icmp .ge 32, 3) := by decide +kernel
theorem dX13_goesInto_24 : decode cX13_goesInto 24 = .ok (.aload_n 0, 1) := by decide +kernel
theorem dX13_goesInto_25 : decode cX13_goesInto 25 = .ok (.iload_n 1, 1) := by decide +kernel
theorem dX13_goesInto_26 : decode cX13_goesInto 26 = .ok (.iload_n 3, 1) := by decide +kernel
theorem dX13_goesInto_27 : decode cX13_goesInto 27 = .ok (.iload 5, 2) := by decide +kernel
theorem dX13_goesInto_29 : decode cX13_goesInto 29 = .ok (.invokevirtual 516, 3) := by decide +kernel
theorem dX13_goesInto_32 : decode cX13_goesInto 32 = .ok (.aload_n 0, 1) := by decide +kernel
theorem dX13_goesInto_33 : decode cX13_goesInto 33 = .ok (.iload_n 1, 1) := by decide +kernel
theorem dX13_goesInto_34 : decode cX13_goesInto 34 = .ok (.iload_n 3, 1) := by decide +kernel
theorem dX13_goesInto_35 : decode cX13_goesInto 35 = .ok (.iload 4, 2) := by decide +kernel
theorem dX13_goesInto_37 : decode cX13_goesInto 37 = .ok (.invokevirtual 516, 3) := by decide +kernel
theorem dX13_goesInto_40 : decode cX13_goesInto 40 = .ok (.if_icmp .ge 7, 3) := by decide +kernel
theorem dX13_goesInto_43 : decode cX13_goesInto 43 = .ok (.iload 5, 2) := by decide +kernel
theorem dX13_goesInto_45 : decode cX13_goesInto 45 = .ok (.istore 4, 2) := by decide +kernel
theorem dX13_goesInto_47 : decode cX13_goesInto 47 = .ok (.iinc 5 1, 3) := by decide +kernel
theorem dX13_goesInto_50 : decode cX13_goesInto 50 = .ok (.goto (-44), 3) := by decide +kernel
theorem dX13_goesInto_53 : decode cX13_goesInto 53 = .ok (.aload_n 0, 1) := by decide +kernel
theorem dX13_goesInto_54 : decode cX13_goesInto 54 = .ok (.iload_n 1, 1) := by decide +kernel
theorem dX13_goesInto_55 : decode cX13_goesInto 55 = .ok (.iload_n 3, 1) := by decide +kernel
theorem dX13_goesInto_56 : decode cX13_goesInto 56 = .ok (.iload 4, 2) := by decide +kernel
theorem dX13_goesInto_58 : decode cX13_goesInto 58 = .ok (.invokevirtual 516, 3) := by decide +kernel
theorem dX13_goesInto_61 : decode cX13_goesInto 61 = .ok (.istore 5, 2) := by decide +kernel
theorem dX13_goesInto_63 : decode cX13_goesInto 63 = .ok (.iload 5, 2) := by decide +kernel
theorem dX13_goesInto_65 : decode cX13_goesInto 65 = .ok (.aload_n 0, 1) := by decide +kernel
theorem dX13_goesInto_66 : decode cX13_goesInto 66 = .ok (.getfield 90, 3) := by decide +kernel
theorem dX13_goesInto_69 : decode cX13_goesInto 69 = .ok (.iconst 4, 1) := by decide +kernel
theorem dX13_goesInto_70 : decode cX13_goesInto 70 = .ok (.aload_n 0, 1) := by decide +kernel
theorem dX13_goesInto_71 : decode cX13_goesInto 71 = .ok (.getfield 51, 3) := by decide +kernel
theorem dX13_goesInto_74 : decode cX13_goesInto 74 = .ok (.imul, 1) := by decide +kernel
theorem dX13_goesInto_75 : decode cX13_goesInto 75 = .ok (.iload_n 3, 1) := by decide +kernel
theorem dX13_goesInto_76 : decode cX13_goesInto 76 = .ok (.iadd, 1) := by decide +kernel
theorem dX13_goesInto_77 : decode cX13_goesInto 77 = .ok (.iaload, 1) := by decide +kernel
theorem dX13_goesInto_78 : decode cX13_goesInto 78 = .ok (.if_icmp .ne 5, 3) := by decide +kernel
theorem dX13_goesInto_81 : decode cX13_goesInto 81 = .ok (.iconst 0, 1) := by decide +kernel
theorem dX13_goesInto_82 : decode cX13_goesInto 82 = .ok (.ireturn, 1) := by decide +kernel
theorem dX13_goesInto_83 : decode cX13_goesInto 83 = .ok (.aload_n 0, 1) := by decide +kernel
theorem dX13_goesInto_84 : decode cX13_goesInto 84 = .ok (.iload_n 1, 1) := by decide +kernel
theorem dX13_goesInto_85 : decode cX13_goesInto 85 = .ok (.iload_n 3, 1) := by decide +kernel
theorem dX13_goesInto_86 : decode cX13_goesInto 86 = .ok (.iload 4, 2) := by decide +kernel
theorem dX13_goesInto_88 : decode cX13_goesInto 88 = .ok (.iconst 1, 1) := by decide +kernel
theorem dX13_goesInto_89 : decode cX13_goesInto 89 = .ok (.isub, 1) := by decide +kernel
theorem dX13_goesInto_90 : decode cX13_goesInto 90 = .ok (.iload 5, 2) := by decide +kernel
theorem dX13_goesInto_92 : decode cX13_goesInto 92 = .ok (.invokevirtual 534, 3) := by decide +kernel
theorem dX13_goesInto_95 : decode cX13_goesInto 95 = .ok (.istore 6, 2) := by decide +kernel
theorem dX13_goesInto_97 : decode cX13_goesInto 97 = .ok (.aload_n 0, 1) := by decide +kernel
theorem dX13_goesInto_98 : decode cX13_goesInto 98 = .ok (.iload_n 1, 1) := by decide +kernel
theorem dX13_goesInto_99 : decode cX13_goesInto 99 = .ok (.iload_n 2, 1) := by decide +kernel
theorem dX13_goesInto_100 : decode cX13_goesInto 100 = .ok (.iload 6, 2) := by decide +kernel
theorem dX13_goesInto_102 : decode cX13_goesInto 102 = .ok (.invokevirtual 547, 3) := by decide +kernel
theorem dX13_goesInto_105 : decode cX13_goesInto 105 = .ok (.ifCond .ne 24, 3) := by decide +kernel
theorem dX13_goesInto_108 : decode cX13_goesInto 108 = .ok (.aload_n 0, 1) := by decide +kernel
theorem dX13_goesInto_109 : decode cX13_goesInto 109 = .ok (.iload_n 1, 1) := by decide +kernel
theorem dX13_goesInto_110 : decode cX13_goesInto 110 = .ok (.iload_n 2, 1) := by decide +kernel
theorem dX13_goesInto_111 : decode cX13_goesInto 111 = .ok (.aload_n 0, 1) := by decide +kernel
theorem dX13_goesInto_112 : decode cX13_goesInto 112 = .ok (.iload_n 1, 1) := by decide +kernel
theorem dX13_goesInto_113 : decode cX13_goesInto 113 = .ok (.iload_n 3, 1) := by decide +kernel
theorem dX13_goesInto_114 : decode cX13_goesInto 114 = .ok (.iload 4, 2) := by decide +kernel
theorem dX13_goesInto_116 : decode cX13_goesInto 116 = .ok (.iconst 1, 1) := by decide +kernel
theorem dX13_goesInto_117 : decode cX13_goesInto 117 = .ok (.iadd, 1) := by decide +kernel
theorem dX13_goesInto_118 : decode cX13_goesInto 118 = .ok (.iload 5, 2) := by decide +kernel
theorem dX13_goesInto_120 : decode cX13_goesInto 120 = .ok (.invokevirtual 534, 3) := by decide +kernel
theorem dX13_goesInto_123 : decode cX13_goesInto 123 = .ok (.invokevirtual 547, 3) := by decide +kernel
theorem dX13_goesInto_126 : decode cX13_goesInto 126 = .ok (.ifCond .eq 5, 3) := by decide +kernel
theorem dX13_goesInto_129 : decode cX13_goesInto 129 = .ok (.iconst 0, 1) := by decide +kernel
theorem dX13_goesInto_130 : decode cX13_goesInto 130 = .ok (.ireturn, 1) := by decide +kernel
theorem dX13_goesInto_131 : decode cX13_goesInto 131 = .ok (.aload_n 0, 1) := by decide +kernel
theorem dX13_goesInto_132 : decode cX13_goesInto 132 = .ok (.iconst 1, 1) := by decide +kernel
theorem dX13_goesInto_133 : decode cX13_goesInto 133 = .ok (.invokevirtual 484, 3) := by decide +kernel
theorem dX13_goesInto_136 : decode cX13_goesInto 136 = .ok (.ifCond .eq 119, 3) := by decide +kernel
theorem dX13_goesInto_139 : decode cX13_goesInto 139 = .ok (.aload_n 0, 1) := by decide +kernel
theorem dX13_goesInto_140 : decode cX13_goesInto 140 = .ok (.iload_n 1, 1) := by decide +kernel
theorem dX13_goesInto_141 : decode cX13_goesInto 141 = .ok (.iload_n 3, 1) := by decide +kernel
theorem dX13_goesInto_142 : decode cX13_goesInto 142 = .ok (.iload 4, 2) := by decide +kernel
theorem dX13_goesInto_144 : decode cX13_goesInto 144 = .ok (.iload 5, 2) := by decide +kernel
theorem dX13_goesInto_146 : decode cX13_goesInto 146 = .ok (.iconst 1, 1) := by decide +kernel
theorem dX13_goesInto_147 : decode cX13_goesInto 147 = .ok (.isub, 1) := by decide +kernel
theorem dX13_goesInto_148 : decode cX13_goesInto 148 = .ok (.invokevirtual 534, 3) := by decide +kernel
theorem dX13_goesInto_151 : decode cX13_goesInto 151 = .ok (.istore 7, 2) := by decide +kernel
theorem dX13_goesInto_153 : decode cX13_goesInto 153 = .ok (.aload_n 0, 1) := by decide +kernel
theorem dX13_goesInto_154 : decode cX13_goesInto 154 = .ok (.aload_n 0, 1) := by decide +kernel
theorem dX13_goesInto_155 : decode cX13_goesInto 155 = .ok (.getfield 168, 3) := by decide +kernel
theorem dX13_goesInto_158 : decode cX13_goesInto 158 = .ok (.bipush 8, 2) := by decide +kernel
theorem dX13_goesInto_160 : decode cX13_goesInto 160 = .ok (.iload_n 1, 1) := by decide +kernel
theorem dX13_goesInto_161 : decode cX13_goesInto 161 = .ok (.imul, 1) := by decide +kernel
theorem dX13_goesInto_162 : decode cX13_goesInto 162 = .ok (.iload_n 2, 1) := by decide +kernel
theorem dX13_goesInto_163 : decode cX13_goesInto 163 = .ok (.iadd, 1) := by decide +kernel
theorem dX13_goesInto_164 : decode cX13_goesInto 164 = .ok (.iaload, 1) := by decide +kernel
theorem dX13_goesInto_165 : decode cX13_goesInto 165 = .ok (.aload_n 0, 1) := by decide +kernel
theorem dX13_goesInto_166 : decode cX13_goesInto 166 = .ok (.iload_n 1, 1) := by decide +kernel
theorem dX13_goesInto_167 : decode cX13_goesInto 167 = .ok (.iload_n 2, 1) := by decide +kernel
theorem dX13_goesInto_168 : decode cX13_goesInto 168 = .ok (.invokevirtual 498, 3) := by decide +kernel
theorem dX13_goesInto_171 : decode cX13_goesInto 171 = .ok (.aload_n 0, 1) := by decide +kernel
theorem dX13_goesInto_172 : decode cX13_goesInto 172 = .ok (.iload_n 1, 1) := by decide +kernel
theorem dX13_goesInto_173 : decode cX13_goesInto 173 = .ok (.iload_n 2, 1) := by decide +kernel
theorem dX13_goesInto_174 : decode cX13_goesInto 174 = .ok (.invokevirtual 522, 3) := by decide +kernel
theorem dX13_goesInto_177 : decode cX13_goesInto 177 = .ok (.aload_n 0, 1) := by decide +kernel
theorem dX13_goesInto_178 : decode cX13_goesInto 178 = .ok (.getfield 162, 3) := by decide +kernel
theorem dX13_goesInto_181 : decode cX13_goesInto 181 = .ok (.iload_n 1, 1) := by decide +kernel
theorem dX13_goesInto_182 : decode cX13_goesInto 182 = .ok (.iaload, 1) := by decide +kernel
theorem dX13_goesInto_183 : decode cX13_goesInto 183 = .ok (.invokevirtual 480, 3) := by decide +kernel
theorem dX13_goesInto_186 : decode cX13_goesInto 186 = .ok (.aload_n 0, 1) := by decide +kernel
theorem dX13_goesInto_187 : decode cX13_goesInto 187 = .ok (.getfield 201, 3) := by decide +kernel
theorem dX13_goesInto_190 : decode cX13_goesInto 190 = .ok (.bipush 6, 2) := by decide +kernel
theorem dX13_goesInto_192 : decode cX13_goesInto 192 = .ok (.iload 5, 2) := by decide +kernel
theorem dX13_goesInto_194 : decode cX13_goesInto 194 = .ok (.iastore, 1) := by decide +kernel
theorem dX13_goesInto_195 : decode cX13_goesInto 195 = .ok (.aload_n 0, 1) := by decide +kernel
theorem dX13_goesInto_196 : decode cX13_goesInto 196 = .ok (.getfield 201, 3) := by decide +kernel
theorem dX13_goesInto_199 : decode cX13_goesInto 199 = .ok (.bipush 7, 2) := by decide +kernel
theorem dX13_goesInto_201 : decode cX13_goesInto 201 = .ok (.iload 6, 2) := by decide +kernel
theorem dX13_goesInto_203 : decode cX13_goesInto 203 = .ok (.iconst (-1), 1) := by decide +kernel
theorem dX13_goesInto_204 : decode cX13_goesInto 204 = .ok (.if_icmp .ne 7, 3) := by decide +kernel
theorem dX13_goesInto_207 : decode cX13_goesInto 207 = .ok (.iconst 0, 1) := by decide +kernel
theorem dX13_goesInto_208 : decode cX13_goesInto 208 = .ok (.goto 10, 3) := by decide +kernel
theorem dX13_goesInto_211 : decode cX13_goesInto 211 = .ok (.aload_n 0, 1) := by decide +kernel
theorem dX13_goesInto_212 : decode cX13_goesInto 212 = .ok (.iload_n 1, 1) := by decide +kernel
theorem dX13_goesInto_213 : decode cX13_goesInto 213 = .ok (.iload 6, 2) := by decide +kernel
theorem dX13_goesInto_215 : decode cX13_goesInto 215 = .ok (.invokevirtual 522, 3) := by decide +kernel
theorem dX13_goesInto_218 : decode cX13_goesInto 218 = .ok (.iastore, 1) := by decide +kernel
theorem dX13_goesInto_219 : decode cX13_goesInto 219 = .ok (.aload_n 0, 1) := by decide +kernel
theorem dX13_goesInto_220 : decode cX13_goesInto 220 = .ok (.getfield 201, 3) := by decide +kernel
theorem dX13_goesInto_223 : decode cX13_goesInto 223 = .ok (.bipush 8, 2) := by decide +kernel
theorem dX13_goesInto_225 : decode cX13_goesInto 225 = .ok (.iload 7, 2) := by decide +kernel
theorem dX13_goesInto_227 : decode cX13_goesInto 227 = .ok (.iconst (-1), 1) := by decide +kernel
theorem dX13_goesInto_228 : decode cX13_goesInto 228 = .ok (.if_icmp .ne 7, 3) := by decide +kernel
theorem dX13_goesInto_231 : decode cX13_goesInto 231 = .ok (.iconst 0, 1) := by decide +kernel
theorem dX13_goesInto_232 : decode cX13_goesInto 232 = .ok (.goto 10, 3) := by decide +kernel
theorem dX13_goesInto_235 : decode cX13_goesInto 235 = .ok (.aload_n 0, 1) := by decide +kernel
theorem dX13_goesInto_236 : decode cX13_goesInto 236 = .ok (.iload_n 1, 1) := by decide +kernel
theorem dX13_goesInto_237 : decode cX13_goesInto 237 = .ok (.iload 7, 2) := by decide +kernel
theorem dX13_goesInto_239 : decode cX13_goesInto 239 = .ok (.invokevirtual 522, 3) := by decide +kernel
theorem dX13_goesInto_242 : decode cX13_goesInto 242 = .ok (.iastore, 1) := by decide +kernel
theorem dX13_goesInto_243 : decode cX13_goesInto 243 = .ok (.aload_n 0, 1) := by decide +kernel
theorem dX13_goesInto_244 : decode cX13_goesInto 244 = .ok (.iconst 1, 1) := by decide +kernel
theorem dX13_goesInto_245 : decode cX13_goesInto 245 = .ok (.invokevirtual 487, 3) := by decide +kernel
theorem dX13_goesInto_248 : decode cX13_goesInto 248 = .ok (.lconst 0, 1) := by decide +kernel
theorem dX13_goesInto_249 : decode cX13_goesInto 249 = .ok (.lcmp, 1) := by decide +kernel
theorem dX13_goesInto_250 : decode cX13_goesInto 250 = .ok (.ifCond .ne 5, 3) := by decide +kernel
theorem dX13_goesInto_253 : decode cX13_goesInto 253 = .ok (.iconst 0, 1) := by decide +kernel
theorem dX13_goesInto_254 : decode cX13_goesInto 254 = .ok (.ireturn, 1) := by decide +kernel
theorem dX13_goesInto_255 : decode cX13_goesInto 255 = .ok (.aload_n 0, 1) := by decide +kernel
theorem dX13_goesInto_256 : decode cX13_goesInto 256 = .ok (.getfield 174, 3) := by decide +kernel
theorem dX13_goesInto_259 : decode cX13_goesInto 259 = .ok (.bipush 8, 2) := by decide +kernel
theorem dX13_goesInto_261 : decode cX13_goesInto 261 = .ok (.iload_n 1, 1) := by decide +kernel
theorem dX13_goesInto_262 : decode cX13_goesInto 262 = .ok (.imul, 1) := by decide +kernel
theorem dX13_goesInto_263 : decode cX13_goesInto 263 = .ok (.iload_n 2, 1) := by decide +kernel
theorem dX13_goesInto_264 : decode cX13_goesInto 264 = .ok (.iadd, 1) := by decide +kernel
theorem dX13_goesInto_265 : decode cX13_goesInto 265 = .ok (.iload_n 3, 1) := by decide +kernel
theorem dX13_goesInto_266 : decode cX13_goesInto 266 = .ok (.iastore, 1) := by decide +kernel
theorem dX13_goesInto_267 : decode cX13_goesInto 267 = .ok (.aload_n 0, 1) := by decide +kernel
theorem dX13_goesInto_268 : decode cX13_goesInto 268 = .ok (.getfield 177, 3) := by decide +kernel
theorem dX13_goesInto_271 : decode cX13_goesInto 271 = .ok (.bipush 8, 2) := by decide +kernel
theorem dX13_goesInto_273 : decode cX13_goesInto 273 = .ok (.iload_n 1, 1) := by decide +kernel
theorem dX13_goesInto_274 : decode cX13_goesInto 274 = .ok (.imul, 1) := by decide +kernel
theorem dX13_goesInto_275 : decode cX13_goesInto 275 = .ok (.iload_n 2, 1) := by decide +kernel
theorem dX13_goesInto_276 : decode cX13_goesInto 276 = .ok (.iadd, 1) := by decide +kernel
theorem dX13_goesInto_277 : decode cX13_goesInto 277 = .ok (.iload 4, 2) := by decide +kernel
theorem dX13_goesInto_279 : decode cX13_goesInto 279 = .ok (.iastore, 1) := by decide +kernel
theorem dX13_goesInto_280 : decode cX13_goesInto 280 = .ok (.aload_n 0, 1) := by decide +kernel
theorem dX13_goesInto_281 : decode cX13_goesInto 281 = .ok (.getfield 180, 3) := by decide +kernel
theorem dX13_goesInto_284 : decode cX13_goesInto 284 = .ok (.bipush 8, 2) := by decide +kernel
theorem dX13_goesInto_286 : decode cX13_goesInto 286 = .ok (.iload_n 1, 1) := by decide +kernel
theorem dX13_goesInto_287 : decode cX13_goesInto 287 = .ok (.imul, 1) := by decide +kernel
theorem dX13_goesInto_288 : decode cX13_goesInto 288 = .ok (.iload_n 2, 1) := by decide +kernel
theorem dX13_goesInto_289 : decode cX13_goesInto 289 = .ok (.iadd, 1) := by decide +kernel
theorem dX13_goesInto_290 : decode cX13_goesInto 290 = .ok (.iload 5, 2) := by decide +kernel
theorem dX13_goesInto_292 : decode cX13_goesInto 292 = .ok (.iastore, 1) := by decide +kernel
theorem dX13_goesInto_293 : decode cX13_goesInto 293 = .ok (.aload_n 0, 1) := by decide +kernel
theorem dX13_goesInto_294 : decode cX13_goesInto 294 = .ok (.iload_n 1, 1) := by decide +kernel
theorem dX13_goesInto_295 : decode cX13_goesInto 295 = .ok (.iload_n 3, 1) := by decide +kernel
theorem dX13_goesInto_296 : decode cX13_goesInto 296 = .ok (.invokevirtual 550, 3) := by decide +kernel
theorem dX13_goesInto_299 : decode cX13_goesInto 299 = .ok (.ifCond .eq 5, 3) := by decide +kernel
theorem dX13_goesInto_302 : decode cX13_goesInto 302 = .ok (.iconst 1, 1) := by decide +kernel
theorem dX13_goesInto_303 : decode cX13_goesInto 303 = .ok (.ireturn, 1) := by decide +kernel
theorem dX13_goesInto_304 : decode cX13_goesInto 304 = .ok (.aload_n 0, 1) := by decide +kernel
theorem dX13_goesInto_305 : decode cX13_goesInto 305 = .ok (.getfield 174, 3) := by decide +kernel
theorem dX13_goesInto_308 : decode cX13_goesInto 308 = .ok (.bipush 8, 2) := by decide +kernel
theorem dX13_goesInto_310 : decode cX13_goesInto 310 = .ok (.iload_n 1, 1) := by decide +kernel
theorem dX13_goesInto_311 : decode cX13_goesInto 311 = .ok (.imul, 1) := by decide +kernel
theorem dX13_goesInto_312 : decode cX13_goesInto 312 = .ok (.iload_n 2, 1) := by decide +kernel
theorem dX13_goesInto_313 : decode cX13_goesInto 313 = .ok (.iadd, 1) := by decide +kernel
theorem dX13_goesInto_314 : decode cX13_goesInto 314 = .ok (.iconst (-1), 1) := by decide +kernel
theorem dX13_goesInto_315 : decode cX13_goesInto 315 = .ok (.iastore, 1) := by decide +kernel
theorem dX13_goesInto_316 : decode cX13_goesInto 316 = .ok (.aload_n 0, 1) := by decide +kernel
theorem dX13_goesInto_317 : decode cX13_goesInto 317 = .ok (.getfield 177, 3) := by decide +kernel
theorem dX13_goesInto_320 : decode cX13_goesInto 320 = .ok (.bipush 8, 2) := by decide +kernel
theorem dX13_goesInto_322 : decode cX13_goesInto 322 = .ok (.iload_n 1, 1) := by decide +kernel
theorem dX13_goesInto_323 : decode cX13_goesInto 323 = .ok (.imul, 1) := by decide +kernel
theorem dX13_goesInto_324 : decode cX13_goesInto 324 = .ok (.iload_n 2, 1) := by decide +kernel
theorem dX13_goesInto_325 : decode cX13_goesInto 325 = .ok (.iadd, 1) := by decide +kernel
theorem dX13_goesInto_326 : decode cX13_goesInto 326 = .ok (.iconst 0, 1) := by decide +kernel
theorem dX13_goesInto_327 : decode cX13_goesInto 327 = .ok (.iastore, 1) := by decide +kernel
theorem dX13_goesInto_328 : decode cX13_goesInto 328 = .ok (.aload_n 0, 1) := by decide +kernel
theorem dX13_goesInto_329 : decode cX13_goesInto 329 = .ok (.getfield 180, 3) := by decide +kernel
theorem dX13_goesInto_332 : decode cX13_goesInto 332 = .ok (.bipush 8, 2) := by decide +kernel
theorem dX13_goesInto_334 : decode cX13_goesInto 334 = .ok (.iload_n 1, 1) := by decide +kernel
theorem dX13_goesInto_335 : decode cX13_goesInto 335 = .ok (.imul, 1) := by decide +kernel
theorem dX13_goesInto_336 : decode cX13_goesInto 336 = .ok (.iload_n 2, 1) := by decide +kernel
theorem dX13_goesInto_337 : decode cX13_goesInto 337 = .ok (.iadd, 1) := by decide +kernel
theorem dX13_goesInto_338 : decode cX13_goesInto 338 = .ok (.iconst 0, 1) := by decide +kernel
theorem dX13_goesInto_339 : decode cX13_goesInto 339 = .ok (.iastore, 1) := by decide +kernel
theorem dX13_goesInto_340 : decode cX13_goesInto 340 = .ok (.iconst 0, 1) := by decide +kernel
theorem dX13_goesInto_341 : decode cX13_goesInto 341 = .ok (.ireturn, 1) := by decide +kernel
theorem dX13_isBuilt_0 : decode cX13_isBuilt 0 = .ok (.iconst 0, 1) := by decide +kernel
theorem dX13_isBuilt_1 : decode cX13_isBuilt 1 = .ok (.istore_n 3, 1) := by decide +kernel
theorem dX13_isBuilt_2 : decode cX13_isBuilt 2 = .ok (.iload_n 3, 1) := by decide +kernel
theorem dX13_isBuilt_3 : decode cX13_isBuilt 3 = .ok (.aload_n 0, 1) := by decide +kernel
theorem dX13_isBuilt_4 : decode cX13_isBuilt 4 = .ok (.getfield 84, 3) := by decide +kernel
theorem dX13_isBuilt_7 : decode cX13_isBuilt 7 = .ok (.aload_n 0, 1) := by decide +kernel
theorem dX13_isBuilt_8 : decode cX13_isBuilt 8 = .ok (.getfield 51, 3) := by decide +kernel
theorem dX13_isBuilt_11 : decode cX13_isBuilt 11 = .ok (.iaload, 1) := by decide +kernel
theorem dX13_isBuilt_12 : decode cX13_isBuilt 12 = .ok (.if_icmp .ge 32, 3) := by decide +kernel
theorem dX13_isBuilt_15 : decode cX13_isBuilt 15 = .ok (.aload_n 0, 1) := by decide +kernel
theorem dX13_isBuilt_16 : decode cX13_isBuilt 16 = .ok (.iload_n 1, 1) := by decide +kernel
theorem dX13_isBuilt_17 : decode cX13_isBuilt 17 = .ok (.iload_n 2, 1) := by decide +kernel
theorem dX13_isBuilt_18 : decode cX13_isBuilt 18 = .ok (.iload_n 3, 1) := by decide +kernel
theorem dX13_isBuilt_19 : decode cX13_isBuilt 19 = .ok (.invokevirtual 553, 3) := by decide +kernel
theorem dX13_isBuilt_22 : decode cX13_isBuilt 22 = .ok (.ifCond .ne 6, 3) := by decide +kernel
theorem dX13_isBuilt_25 : decode cX13_isBuilt 25 = .ok (.goto 13, 3) := by decide +kernel
theorem dX13_isBuilt_28 : decode cX13_isBuilt 28 = .ok (.aload_n 0, 1) := by decide +kernel
theorem dX13_isBuilt_29 : decode cX13_isBuilt 29 = .ok (.iload_n 1, 1) := by decide +kernel
theorem dX13_isBuilt_30 : decode cX13_isBuilt 30 = .ok (.iload_n 2, 1) := by decide +kernel
theorem dX13_isBuilt_31 : decode cX13_isBuilt 31 = .ok (.iload_n 3, 1) := by decide +kernel
theorem dX13_isBuilt_32 : decode cX13_isBuilt 32 = .ok (.iconst 1, 1) := by decide +kernel
theorem dX13_isBuilt_33 : decode cX13_isBuilt 33 = .ok (.invokevirtual 538, 3) := by decide +kernel
theorem dX13_isBuilt_36 : decode cX13_isBuilt 36 = .ok (.iconst 1, 1) := by decide +kernel
theorem dX13_isBuilt_37 : decode cX13_isBuilt 37 = .ok (.ireturn, 1) := by decide +kernel
theorem dX13_isBuilt_38 : decode cX13_isBuilt 38 = .ok (.iinc 3 1, 3) := by decide +kernel
theorem dX13_isBuilt_41 : decode cX13_isBuilt 41 = .ok (.goto (-39), 3) := by decide +kernel
theorem dX13_isBuilt_44 : decode cX13_isBuilt 44 = .ok (.iconst 0, 1) := by decide +kernel
theorem dX13_isBuilt_45 : decode cX13_isBuilt 45 = .ok (.ireturn, 1) := by decide +kernel
theorem dX13_bits_0 : decode cX13_bits 0 = .ok (.iconst 0, 1) := by decide +kernel
theorem dX13_bits_1 : decode cX13_bits 1 = .ok (.istore_n 1, 1) := by decide +kernel
theorem dX13_bits_2 : decode cX13_bits 2 = .ok (.iload_n 0, 1) := by decide +kernel
theorem dX13_bits_3 : decode cX13_bits 3 = .ok (.istore_n 2, 1) := by decide +kernel
theorem dX13_bits_4 : decode cX13_bits 4 = .ok (.iload_n 2, 1) := by decide +kernel
theorem dX13_bits_5 : decode cX13_bits 5 = .ok (.ifCond .eq 15, 3) := by decide +kernel
theorem dX13_bits_8 : decode cX13_bits 8 = .ok (.iinc 1 1, 3) := by decide +kernel
theorem dX13_bits_11 : decode cX13_bits 11 = .ok (.iload_n 2, 1) := by decide +kernel
theorem dX13_bits_12 : decode cX13_bits 12 = .ok (.iload_n 2, 1) := by decide +kernel
theorem dX13_bits_13 : decode cX13_bits 13 = .ok (.iconst 1, 1) := by decide +kernel
theorem dX13_bits_14 : decode cX13_bits 14 = .ok (.isub, 1) := by decide +kernel
theorem dX13_bits_15 : decode cX13_bits 15 = .ok (.iand, 1) := by decide +kernel
theorem dX13_bits_16 : decode cX13_bits 16 = .ok (.istore_n 2, 1) := by decide +kernel
theorem dX13_bits_17 : decode cX13_bits 17 = .ok (.goto (-13), 3) := by decide +kernel
theorem dX13_bits_20 : decode cX13_bits 20 = .ok (.iload_n 1, 1) := by decide +kernel
theorem dX13_bits_21 : decode cX13_bits 21 = .ok (.ireturn, 1) := by decide +kernel
theorem dX13_freezes_0 : decode cX13_freezes 0 = .ok (.iconst 0, 1) := by decide +kernel
theorem dX13_freezes_1 : decode cX13_freezes 1 = .ok (.istore_n 2, 1) := by decide +kernel
theorem dX13_freezes_2 : decode cX13_freezes 2 = .ok (.iload_n 2, 1) := by decide +kernel
theorem dX13_freezes_3 : decode cX13_freezes 3 = .ok (.aload_n 0, 1) := by decide +kernel
theorem dX13_freezes_4 : decode cX13_freezes 4 = .ok (.getfield 63, 3) := by decide +kernel
theorem dX13_freezes_7 : decode cX13_freezes 7 = .ok (.aload_n 0, 1) := by decide +kernel
theorem dX13_freezes_8 : decode cX13_freezes 8 = .ok (.getfield 51, 3) := by decide +kernel
theorem dX13_freezes_11 : decode cX13_freezes 11 = .ok (.iaload, 1) := by decide +kernel
theorem dX13_freezes_12 : decode cX13_freezes 12 = .ok (.if_icmp .ge 62, 3) := by decide +kernel
theorem dX13_freezes_15 : decode cX13_freezes 15 = .ok (.bipush 8, 2) := by decide +kernel
theorem dX13_freezes_17 : decode cX13_freezes 17 = .ok (.iload_n 1, 1) := by decide +kernel
theorem dX13_freezes_18 : decode cX13_freezes 18 = .ok (.imul, 1) := by decide +kernel
theorem dX13_freezes_19 : decode cX13_freezes 19 = .ok (.iload_n 2, 1) := by decide +kernel
theorem dX13_freezes_20 : decode cX13_freezes 20 = .ok (.iadd, 1) := by decide +kernel
theorem dX13_freezes_21 : decode cX13_freezes 21 = .ok (.istore_n 3, 1) := by decide +kernel
theorem dX13_freezes_22 : decode cX13_freezes 22 = .ok (.aload_n 0, 1) := by decide +kernel
theorem dX13_freezes_23 : decode cX13_freezes 23 = .ok (.getfield 174, 3) := by decide +kernel
theorem dX13_freezes_26 : decode cX13_freezes 26 = .ok (.iload_n 3, 1) := by decide +kernel
theorem dX13_freezes_27 : decode cX13_freezes 27 = .ok (.iaload, 1) := by decide +kernel
theorem dX13_freezes_28 : decode cX13_freezes 28 = .ok (.iconst (-1), 1) := by decide +kernel
theorem dX13_freezes_29 : decode cX13_freezes 29 = .ok (.if_icmp .eq 39, 3) := by decide +kernel
theorem dX13_freezes_32 : decode cX13_freezes 32 = .ok (.aload_n 0, 1) := by decide +kernel
theorem dX13_freezes_33 : decode cX13_freezes 33 = .ok (.getfield 171, 3) := by decide +kernel
theorem dX13_freezes_36 : decode cX13_freezes 36 = .ok (.iload_n 3, 1) := by decide +kernel
theorem dX13_freezes_37 : decode cX13_freezes 37 = .ok (.aload_n 0, 1) := by decide +kernel
theorem dX13_freezes_38 : decode cX13_freezes 38 = .ok (.getfield 171, 3) := by decide +kernel
theorem dX13_freezes_41 : decode cX13_freezes 41 = .ok (.iload_n 3, 1) := by decide +kernel
theorem dX13_freezes_42 : decode cX13_freezes 42 = .ok (.iaload, 1) := by decide +kernel
theorem dX13_freezes_43 : decode cX13_freezes 43 = .ok (.aload_n 0, 1) := by decide +kernel
theorem dX13_freezes_44 : decode cX13_freezes 44 = .ok (.iconst 4, 1) := by decide +kernel
theorem dX13_freezes_45 : decode cX13_freezes 45 = .ok (.invokevirtual 501, 3) := by decide +kernel
theorem dX13_freezes_48 : decode cX13_freezes 48 = .ok (.if_icmp .le 18, 3) := by decide +kernel
theorem dX13_freezes_51 : decode cX13_freezes 51 = .ok (.aload_n 0, 1) := by decide +kernel
theorem dX13_freezes_52 : decode cX13_freezes 52 = .ok (.getfield 171, 3) := by decide +kernel
theorem dX13_freezes_55 : decode cX13_freezes 55 = .ok (.iload_n 3, 1) := by decide +kernel
theorem dX13_freezes_56 : decode cX13_freezes 56 = .ok (.iaload, 1) := by decide +kernel
theorem dX13_freezes_57 : decode cX13_freezes 57 = .ok (.aload_n 0, 1) := by decide +kernel
theorem dX13_freezes_58 : decode cX13_freezes 58 = .ok (.iconst 4, 1) := by decide +kernel
theorem dX13_freezes_59 : decode cX13_freezes 59 = .ok (.invokevirtual 501, 3) := by decide +kernel
theorem dX13_freezes_62 : decode cX13_freezes 62 = .ok (.isub, 1) := by decide +kernel
theorem dX13_freezes_63 : decode cX13_freezes 63 = .ok (.goto 4, 3) := by decide +kernel
theorem dX13_freezes_66 : decode cX13_freezes 66 = .ok (.iconst 0, 1) := by decide +kernel
theorem dX13_freezes_67 : decode cX13_freezes 67 = .ok (.iastore, 1) := by decide +kernel
theorem dX13_freezes_68 : decode cX13_freezes 68 = .ok (.iinc 2 1, 3) := by decide +kernel
theorem dX13_freezes_71 : decode cX13_freezes 71 = .ok (.goto (-69), 3) := by decide +kernel
theorem dX13_freezes_74 : decode cX13_freezes 74 = .ok (.return_, 1) := by decide +kernel
theorem dX13_passes_0 : decode cX13_passes 0 = .ok (.iconst 0, 1) := by decide +kernel
theorem dX13_passes_1 : decode cX13_passes 1 = .ok (.istore_n 3, 1) := by decide +kernel
theorem dX13_passes_2 : decode cX13_passes 2 = .ok (.iload_n 3, 1) := by decide +kernel
theorem dX13_passes_3 : decode cX13_passes 3 = .ok (.aload_n 0, 1) := by decide +kernel
theorem dX13_passes_4 : decode cX13_passes 4 = .ok (.getfield 63, 3) := by decide +kernel
theorem dX13_passes_7 : decode cX13_passes 7 = .ok (.aload_n 0, 1) := by decide +kernel
theorem dX13_passes_8 : decode cX13_passes 8 = .ok (.getfield 51, 3) := by decide +kernel
theorem dX13_passes_11 : decode cX13_passes 11 = .ok (.iaload, 1) := by decide +kernel
theorem dX13_passes_12 : decode cX13_passes 12 = .ok (.if_icmp .ge 62, 3) := by decide +kernel
theorem dX13_passes_15 : decode cX13_passes 15 = .ok (.aload_n 0, 1) := by decide +kernel
theorem dX13_passes_16 : decode cX13_passes 16 = .ok (.iload_n 1, 1) := by decide +kernel
theorem dX13_passes_17 : decode cX13_passes 17 = .ok (.iload_n 3, 1) := by decide +kernel
theorem dX13_passes_18 : decode cX13_passes 18 = .ok (.invokevirtual 556, 3) := by decide +kernel
theorem dX13_passes_21 : decode cX13_passes 21 = .ok (.ifCond .eq 47, 3) := by decide +kernel
theorem dX13_passes_24 : decode cX13_passes 24 = .ok (.aload_n 0, 1) := by decide +kernel
theorem dX13_passes_25 : decode cX13_passes 25 = .ok (.getfield 171, 3) := by decide +kernel
theorem dX13_passes_28 : decode cX13_passes 28 = .ok (.bipush 8, 2) := by decide +kernel
theorem dX13_passes_30 : decode cX13_passes 30 = .ok (.iload_n 1, 1) := by decide +kernel
theorem dX13_passes_31 : decode cX13_passes 31 = .ok (.imul, 1) := by decide +kernel
theorem dX13_passes_32 : decode cX13_passes 32 = .ok (.iload_n 3, 1) := by decide +kernel
theorem dX13_passes_33 : decode cX13_passes 33 = .ok (.iadd, 1) := by decide +kernel
theorem dX13_passes_34 : decode cX13_passes 34 = .ok (.aload_n 0, 1) := by decide +kernel
theorem dX13_passes_35 : decode cX13_passes 35 = .ok (.aload_n 0, 1) := by decide +kernel
theorem dX13_passes_36 : decode cX13_passes 36 = .ok (.getfield 168, 3) := by decide +kernel
theorem dX13_passes_39 : decode cX13_passes 39 = .ok (.bipush 8, 2) := by decide +kernel
theorem dX13_passes_41 : decode cX13_passes 41 = .ok (.iload_n 1, 1) := by decide +kernel
theorem dX13_passes_42 : decode cX13_passes 42 = .ok (.imul, 1) := by decide +kernel
theorem dX13_passes_43 : decode cX13_passes 43 = .ok (.iload_n 3, 1) := by decide +kernel
theorem dX13_passes_44 : decode cX13_passes 44 = .ok (.iadd, 1) := by decide +kernel
theorem dX13_passes_45 : decode cX13_passes 45 = .ok (.iaload, 1) := by decide +kernel
theorem dX13_passes_46 : decode cX13_passes 46 = .ok (.aload_n 0, 1) := by decide +kernel
theorem dX13_passes_47 : decode cX13_passes 47 = .ok (.iload_n 1, 1) := by decide +kernel
theorem dX13_passes_48 : decode cX13_passes 48 = .ok (.iload_n 3, 1) := by decide +kernel
theorem dX13_passes_49 : decode cX13_passes 49 = .ok (.invokevirtual 498, 3) := by decide +kernel
theorem dX13_passes_52 : decode cX13_passes 52 = .ok (.aload_n 0, 1) := by decide +kernel
theorem dX13_passes_53 : decode cX13_passes 53 = .ok (.iload_n 1, 1) := by decide +kernel
theorem dX13_passes_54 : decode cX13_passes 54 = .ok (.iload_n 3, 1) := by decide +kernel
theorem dX13_passes_55 : decode cX13_passes 55 = .ok (.invokevirtual 522, 3) := by decide +kernel
theorem dX13_passes_58 : decode cX13_passes 58 = .ok (.aload_n 0, 1) := by decide +kernel
theorem dX13_passes_59 : decode cX13_passes 59 = .ok (.getfield 162, 3) := by decide +kernel
theorem dX13_passes_62 : decode cX13_passes 62 = .ok (.iload_n 1, 1) := by decide +kernel
theorem dX13_passes_63 : decode cX13_passes 63 = .ok (.iaload, 1) := by decide +kernel
theorem dX13_passes_64 : decode cX13_passes 64 = .ok (.invokevirtual 559, 3) := by decide +kernel
theorem dX13_passes_67 : decode cX13_passes 67 = .ok (.iastore, 1) := by decide +kernel
theorem dX13_passes_68 : decode cX13_passes 68 = .ok (.iinc 3 1, 3) := by decide +kernel
theorem dX13_passes_71 : decode cX13_passes 71 = .ok (.goto (-69), 3) := by decide +kernel
theorem dX13_passes_74 : decode cX13_passes 74 = .ok (.aload_n 0, 1) := by decide +kernel
theorem dX13_passes_75 : decode cX13_passes 75 = .ok (.getfield 162, 3) := by decide +kernel
theorem dX13_passes_78 : decode cX13_passes 78 = .ok (.iload_n 1, 1) := by decide +kernel
theorem dX13_passes_79 : decode cX13_passes 79 = .ok (.dup2, 1) := by decide +kernel
theorem dX13_passes_80 : decode cX13_passes 80 = .ok (.iaload, 1) := by decide +kernel
theorem dX13_passes_81 : decode cX13_passes 81 = .ok (.iconst 1, 1) := by decide +kernel
theorem dX13_passes_82 : decode cX13_passes 82 = .ok (.iadd, 1) := by decide +kernel
theorem dX13_passes_83 : decode cX13_passes 83 = .ok (.iastore, 1) := by decide +kernel
theorem dX13_passes_84 : decode cX13_passes 84 = .ok (.iload_n 2, 1) := by decide +kernel
theorem dX13_passes_85 : decode cX13_passes 85 = .ok (.ifCond .eq 8, 3) := by decide +kernel
theorem dX13_passes_88 : decode cX13_passes 88 = .ok (.aload_n 0, 1) := by decide +kernel
theorem dX13_passes_89 : decode cX13_passes 89 = .ok (.iload_n 1, 1) := by decide +kernel
theorem dX13_passes_90 : decode cX13_passes 90 = .ok (.invokevirtual 562, 3) := by decide +kernel
theorem dX13_passes_93 : decode cX13_passes 93 = .ok (.aload_n 0, 1) := by decide +kernel
theorem dX13_passes_94 : decode cX13_passes 94 = .ok (.iload_n 1, 1) := by decide +kernel
theorem dX13_passes_95 : decode cX13_passes 95 = .ok (.invokevirtual 565, 3) := by decide +kernel
theorem dX13_passes_98 : decode cX13_passes 98 = .ok (.istore_n 3, 1) := by decide +kernel
theorem dX13_passes_99 : decode cX13_passes 99 = .ok (.aload_n 0, 1) := by decide +kernel
theorem dX13_passes_100 : decode cX13_passes 100 = .ok (.iload_n 3, 1) := by decide +kernel
theorem dX13_passes_101 : decode cX13_passes 101 = .ok (.invokestatic 568, 3) := by decide +kernel
theorem dX13_passes_104 : decode cX13_passes 104 = .ok (.putfield 207, 3) := by decide +kernel
theorem dX13_passes_107 : decode cX13_passes 107 = .ok (.aload_n 0, 1) := by decide +kernel
theorem dX13_passes_108 : decode cX13_passes 108 = .ok (.iconst 0, 1) := by decide +kernel
theorem dX13_passes_109 : decode cX13_passes 109 = .ok (.putfield 204, 3) := by decide +kernel
theorem dX13_passes_112 : decode cX13_passes 112 = .ok (.iconst 0, 1) := by decide +kernel
theorem dX13_passes_113 : decode cX13_passes 113 = .ok (.istore 4, 2) := by decide +kernel
theorem dX13_passes_115 : decode cX13_passes 115 = .ok (.iload 4, 2) := by decide +kernel
theorem dX13_passes_117 : decode cX13_passes 117 = .ok (.aload_n 0, 1) := by decide +kernel
theorem dX13_passes_118 : decode cX13_passes 118 = .ok (.getfield 63, 3) := by decide +kernel
theorem dX13_passes_121 : decode cX13_passes 121 = .ok (.aload_n 0, 1) := by decide +kernel
theorem dX13_passes_122 : decode cX13_passes 122 = .ok (.getfield 51, 3) := by decide +kernel
theorem dX13_passes_125 : decode cX13_passes 125 = .ok (.iaload, 1) := by decide +kernel
theorem dX13_passes_126 : decode cX13_passes 126 = .ok (.if_icmp .ge 52, 3) := by decide +kernel
theorem dX13_passes_129 : decode cX13_passes 129 = .ok (.aload_n 0, 1) := by decide +kernel
theorem dX13_passes_130 : decode cX13_passes 130 = .ok (.iload_n 1, 1) := by decide +kernel
theorem dX13_passes_131 : decode cX13_passes 131 = .ok (.iload 4, 2) := by decide +kernel
theorem dX13_passes_133 : decode cX13_passes 133 = .ok (.invokevirtual 571, 3) := by decide +kernel
theorem dX13_passes_136 : decode cX13_passes 136 = .ok (.ifCond .eq 36, 3) := by decide +kernel
theorem dX13_passes_139 : decode cX13_passes 139 = .ok (.iload_n 3, 1) := by decide +kernel
theorem dX13_passes_140 : decode cX13_passes 140 = .ok (.iload 4, 2) := by decide +kernel
theorem dX13_passes_142 : decode cX13_passes 142 = .ok (.invokestatic 389, 3) := by decide +kernel
theorem dX13_passes_145 : decode cX13_passes 145 = .ok (.ifCond .ne 27, 3) := by decide +kernel
theorem dX13_passes_148 : decode cX13_passes 148 = .ok (.aload_n 0, 1) := by decide +kernel
theorem dX13_passes_149 : decode cX13_passes 149 = .ok (.dup, 1) := by decide +kernel
theorem dX13_passes_150 : decode cX13_passes 150 = .ok (.getfield 204, 3) := by decide +kernel
theorem dX13_passes_153 : decode cX13_passes 153 = .ok (.aload_n 0, 1) := by decide +kernel
theorem dX13_passes_154 : decode cX13_passes 154 = .ok (.iload_n 1, 1) := by decide +kernel
theorem dX13_passes_155 : decode cX13_passes 155 = .ok (.iload 4, 2) := by decide +kernel
theorem dX13_passes_157 : decode cX13_passes 157 = .ok (.invokevirtual 574, 3) := by decide +kernel
theorem dX13_passes_160 : decode cX13_passes 160 = .ok (.ifCond .eq 7, 3) := by decide +kernel
theorem dX13_passes_163 : decode cX13_passes 163 = .ok (.iconst 1, 1) := by decide +kernel
theorem dX13_passes_164 : decode cX13_passes 164 = .ok (.goto 4, 3) := by decide +kernel
theorem dX13_passes_167 : decode cX13_passes 167 = .ok (.iconst 0, 1) := by decide +kernel
theorem dX13_passes_168 : decode cX13_passes 168 = .ok (.iadd, 1) := by decide +kernel
theorem dX13_passes_169 : decode cX13_passes 169 = .ok (.putfield 204, 3) := by decide +kernel
theorem dX13_passes_172 : decode cX13_passes 172 = .ok (.iinc 4 1, 3) := by decide +kernel
theorem dX13_passes_175 : decode cX13_passes 175 = .ok (.goto (-60), 3) := by decide +kernel
theorem dX13_passes_178 : decode cX13_passes 178 = .ok (.return_, 1) := by decide +kernel
theorem dX13_isHome_0 : decode cX13_isHome 0 = .ok (.iload_n 1, 1) := by decide +kernel
theorem dX13_isHome_1 : decode cX13_isHome 1 = .ok (.ifCond .lt 20, 3) := by decide +kernel
theorem dX13_isHome_4 : decode cX13_isHome 4 = .ok (.iload_n 1, 1) := by decide +kernel
theorem dX13_isHome_5 : decode cX13_isHome 5 = .ok (.aload_n 0, 1) := by decide +kernel
theorem dX13_isHome_6 : decode cX13_isHome 6 = .ok (.getfield 54, 3) := by decide +kernel
theorem dX13_isHome_9 : decode cX13_isHome 9 = .ok (.aload_n 0, 1) := by decide +kernel
theorem dX13_isHome_10 : decode cX13_isHome 10 = .ok (.getfield 51, 3) := by decide +kernel
theorem dX13_isHome_13 : decode cX13_isHome 13 = .ok (.iaload, 1) := by decide +kernel
theorem dX13_isHome_14 : decode cX13_isHome 14 = .ok (.if_icmp .ge 7, 3) := by decide +kernel
theorem dX13_isHome_17 : decode cX13_isHome 17 = .ok (.iconst 1, 1) := by decide +kernel
theorem dX13_isHome_18 : decode cX13_isHome 18 = .ok (.goto 4, 3) := by decide +kernel
theorem dX13_isHome_21 : decode cX13_isHome 21 = .ok (.iconst 0, 1) := by decide +kernel
theorem dX13_isHome_22 : decode cX13_isHome 22 = .ok (.ireturn, 1) := by decide +kernel
theorem dX13_isChild_0 : decode cX13_isChild 0 = .ok (.iload_n 1, 1) := by decide +kernel
theorem dX13_isChild_1 : decode cX13_isChild 1 = .ok (.ifCond .lt 20, 3) := by decide +kernel
theorem dX13_isChild_4 : decode cX13_isChild 4 = .ok (.iload_n 1, 1) := by decide +kernel
theorem dX13_isChild_5 : decode cX13_isChild 5 = .ok (.aload_n 0, 1) := by decide +kernel
theorem dX13_isChild_6 : decode cX13_isChild 6 = .ok (.getfield 63, 3) := by decide +kernel
theorem dX13_isChild_9 : decode cX13_isChild 9 = .ok (.aload_n 0, 1) := by decide +kernel
theorem dX13_isChild_10 : decode cX13_isChild 10 = .ok (.getfield 51, 3) := by decide +kernel
theorem dX13_isChild_13 : decode cX13_isChild 13 = .ok (.iaload, 1) := by decide +kernel
theorem dX13_isChild_14 : decode cX13_isChild 14 = .ok (.if_icmp .ge 7, 3) := by decide +kernel
theorem dX13_isChild_17 : decode cX13_isChild 17 = .ok (.iconst 1, 1) := by decide +kernel
theorem dX13_isChild_18 : decode cX13_isChild 18 = .ok (.goto 4, 3) := by decide +kernel
theorem dX13_isChild_21 : decode cX13_isChild 21 = .ok (.iconst 0, 1) := by decide +kernel
theorem dX13_isChild_22 : decode cX13_isChild 22 = .ok (.ireturn, 1) := by decide +kernel
theorem dX13_isWall_0 : decode cX13_isWall 0 = .ok (.iload_n 1, 1) := by decide +kernel
theorem dX13_isWall_1 : decode cX13_isWall 1 = .ok (.ifCond .lt 20, 3) := by decide +kernel
theorem dX13_isWall_4 : decode cX13_isWall 4 = .ok (.iload_n 1, 1) := by decide +kernel
theorem dX13_isWall_5 : decode cX13_isWall 5 = .ok (.aload_n 0, 1) := by decide +kernel
theorem dX13_isWall_6 : decode cX13_isWall 6 = .ok (.getfield 84, 3) := by decide +kernel
theorem dX13_isWall_9 : decode cX13_isWall 9 = .ok (.aload_n 0, 1) := by decide +kernel
theorem dX13_isWall_10 : decode cX13_isWall 10 = .ok (.getfield 51, 3) := by decide +kernel
theorem dX13_isWall_13 : decode cX13_isWall 13 = .ok (.iaload, 1) := by decide +kernel
theorem dX13_isWall_14 : decode cX13_isWall 14 = .ok (.if_icmp .ge 7, 3) := by decide +kernel
theorem dX13_isWall_17 : decode cX13_isWall 17 = .ok (.iconst 1, 1) := by decide +kernel
theorem dX13_isWall_18 : decode cX13_isWall 18 = .ok (.goto 4, 3) := by decide +kernel
theorem dX13_isWall_21 : decode cX13_isWall 21 = .ok (.iconst 0, 1) := by decide +kernel
theorem dX13_isWall_22 : decode cX13_isWall 22 = .ok (.ireturn, 1) := by decide +kernel
theorem dX13_builtIn_0 : decode cX13_builtIn 0 = .ok (.iconst 0, 1) := by decide +kernel
theorem dX13_builtIn_1 : decode cX13_builtIn 1 = .ok (.istore_n 2, 1) := by decide +kernel
theorem dX13_builtIn_2 : decode cX13_builtIn 2 = .ok (.iconst 0, 1) := by decide +kernel
theorem dX13_builtIn_3 : decode cX13_builtIn 3 = .ok (.istore_n 3, 1) := by decide +kernel
theorem dX13_builtIn_4 : decode cX13_builtIn 4 = .ok (.iload_n 3, 1) := by decide +kernel
theorem dX13_builtIn_5 : decode cX13_builtIn 5 = .ok (.aload_n 0, 1) := by decide +kernel
theorem dX13_builtIn_6 : decode cX13_builtIn 6 = .ok (.getfield 63, 3) := by decide +kernel
theorem dX13_builtIn_9 : decode cX13_builtIn 9 = .ok (.aload_n 0, 1) := by decide +kernel
theorem dX13_builtIn_10 : decode cX13_builtIn 10 = .ok (.getfield 51, 3) := by decide +kernel
theorem dX13_builtIn_13 : decode cX13_builtIn 13 = .ok (.iaload, 1) := by decide +kernel
theorem dX13_builtIn_14 : decode cX13_builtIn 14 = .ok (.if_icmp .ge 29, 3) := by decide +kernel
theorem dX13_builtIn_17 : decode cX13_builtIn 17 = .ok (.iload_n 2, 1) := by decide +kernel
theorem dX13_builtIn_18 : decode cX13_builtIn 18 = .ok (.aload_n 0, 1) := by decide +kernel
theorem dX13_builtIn_19 : decode cX13_builtIn 19 = .ok (.iload_n 1, 1) := by decide +kernel
theorem dX13_builtIn_20 : decode cX13_builtIn 20 = .ok (.iload_n 3, 1) := by decide +kernel
theorem dX13_builtIn_21 : decode cX13_builtIn 21 = .ok (.invokevirtual 507, 3) := by decide +kernel
theorem dX13_builtIn_24 : decode cX13_builtIn 24 = .ok (.iconst (-1), 1) := by decide +kernel
theorem dX13_builtIn_25 : decode cX13_builtIn 25 = .ok (.if_icmp .ne 7, 3) := by decide +kernel
theorem dX13_builtIn_28 : decode cX13_builtIn 28 = .ok (.iconst 0, 1) := by decide +kernel
theorem dX13_builtIn_29 : decode cX13_builtIn 29 = .ok (.goto 6, 3) := by decide +kernel
theorem dX13_builtIn_32 : decode cX13_builtIn 32 = .ok (.iconst 1, 1) := by decide +kernel
theorem dX13_builtIn_33 : decode cX13_builtIn 33 = .ok (.iload_n 3, 1) := by decide +kernel
theorem dX13_builtIn_34 : decode cX13_builtIn 34 = .ok (.ishl, 1) := by decide +kernel
theorem dX13_builtIn_35 : decode cX13_builtIn 35 = .ok (.ior, 1) := by decide +kernel
theorem dX13_builtIn_36 : decode cX13_builtIn 36 = .ok (.istore_n 2, 1) := by decide +kernel
theorem dX13_builtIn_37 : decode cX13_builtIn 37 = .ok (.iinc 3 1, 3) := by decide +kernel
theorem dX13_builtIn_40 : decode cX13_builtIn 40 = .ok (.goto (-36), 3) := by decide +kernel
theorem dX13_builtIn_43 : decode cX13_builtIn 43 = .ok (.iload_n 2, 1) := by decide +kernel
theorem dX13_builtIn_44 : decode cX13_builtIn 44 = .ok (.ireturn, 1) := by decide +kernel
theorem dX13_onShelf_0 : decode cX13_onShelf 0 = .ok (.iconst 0, 1) := by decide +kernel
theorem dX13_onShelf_1 : decode cX13_onShelf 1 = .ok (.istore_n 2, 1) := by decide +kernel
theorem dX13_onShelf_2 : decode cX13_onShelf 2 = .ok (.iconst 0, 1) := by decide +kernel
theorem dX13_onShelf_3 : decode cX13_onShelf 3 = .ok (.istore_n 3, 1) := by decide +kernel
theorem dX13_onShelf_4 : decode cX13_onShelf 4 = .ok (.iload_n 3, 1) := by decide +kernel
theorem dX13_onShelf_5 : decode cX13_onShelf 5 = .ok (.aload_n 0, 1) := by decide +kernel
theorem dX13_onShelf_6 : decode cX13_onShelf 6 = .ok (.getfield 63, 3) := by decide +kernel
theorem dX13_onShelf_9 : decode cX13_onShelf 9 = .ok (.aload_n 0, 1) := by decide +kernel
theorem dX13_onShelf_10 : decode cX13_onShelf 10 = .ok (.getfield 51, 3) := by decide +kernel
theorem dX13_onShelf_13 : decode cX13_onShelf 13 = .ok (.iaload, 1) := by decide +kernel
theorem dX13_onShelf_14 : decode cX13_onShelf 14 = .ok (.if_icmp .ge 28, 3) := by decide +kernel
theorem dX13_onShelf_17 : decode cX13_onShelf 17 = .ok (.iload_n 2, 1) := by decide +kernel
theorem dX13_onShelf_18 : decode cX13_onShelf 18 = .ok (.aload_n 0, 1) := by decide +kernel
theorem dX13_onShelf_19 : decode cX13_onShelf 19 = .ok (.iload_n 1, 1) := by decide +kernel
theorem dX13_onShelf_20 : decode cX13_onShelf 20 = .ok (.iload_n 3, 1) := by decide +kernel
theorem dX13_onShelf_21 : decode cX13_onShelf 21 = .ok (.invokevirtual 571, 3) := by decide +kernel
theorem dX13_onShelf_24 : decode cX13_onShelf 24 = .ok (.ifCond .eq 9, 3) := by decide +kernel
theorem dX13_onShelf_27 : decode cX13_onShelf 27 = .ok (.iconst 1, 1) := by decide +kernel
theorem dX13_onShelf_28 : decode cX13_onShelf 28 = .ok (.iload_n 3, 1) := by decide +kernel
theorem dX13_onShelf_29 : decode cX13_onShelf 29 = .ok (.ishl, 1) := by decide +kernel
theorem dX13_onShelf_30 : decode cX13_onShelf 30 = .ok (.goto 4, 3) := by decide +kernel
theorem dX13_onShelf_33 : decode cX13_onShelf 33 = .ok (.iconst 0, 1) := by decide +kernel
theorem dX13_onShelf_34 : decode cX13_onShelf 34 = .ok (.ior, 1) := by decide +kernel
theorem dX13_onShelf_35 : decode cX13_onShelf 35 = .ok (.istore_n 2, 1) := by decide +kernel
theorem dX13_onShelf_36 : decode cX13_onShelf 36 = .ok (.iinc 3 1, 3) := by decide +kernel
theorem dX13_onShelf_39 : decode cX13_onShelf 39 = .ok (.goto (-35), 3) := by decide +kernel
theorem dX13_onShelf_42 : decode cX13_onShelf 42 = .ok (.iload_n 2, 1) := by decide +kernel
theorem dX13_onShelf_43 : decode cX13_onShelf 43 = .ok (.ireturn, 1) := by decide +kernel
theorem dX13_stonesIn_0 : decode cX13_stonesIn 0 = .ok (.iconst 0, 1) := by decide +kernel
theorem dX13_stonesIn_1 : decode cX13_stonesIn 1 = .ok (.istore_n 2, 1) := by decide +kernel
theorem dX13_stonesIn_2 : decode cX13_stonesIn 2 = .ok (.iconst 0, 1) := by decide +kernel
theorem dX13_stonesIn_3 : decode cX13_stonesIn 3 = .ok (.istore_n 3, 1) := by decide +kernel
theorem dX13_stonesIn_4 : decode cX13_stonesIn 4 = .ok (.iload_n 3, 1) := by decide +kernel
theorem dX13_stonesIn_5 : decode cX13_stonesIn 5 = .ok (.aload_n 0, 1) := by decide +kernel
theorem dX13_stonesIn_6 : decode cX13_stonesIn 6 = .ok (.getfield 63, 3) := by decide +kernel
theorem dX13_stonesIn_9 : decode cX13_stonesIn 9 = .ok (.aload_n 0, 1) := by decide +kernel
theorem dX13_stonesIn_10 : decode cX13_stonesIn 10 = .ok (.getfield 51, 3) := by decide +kernel
theorem dX13_stonesIn_13 : decode cX13_stonesIn 13 = .ok (.iaload, 1) := by decide +kernel
theorem dX13_stonesIn_14 : decode cX13_stonesIn 14 = .ok (.if_icmp .ge 29, 3) := by decide +kernel
theorem dX13_stonesIn_17 : decode cX13_stonesIn 17 = .ok (.iload_n 2, 1) := by decide +kernel
theorem dX13_stonesIn_18 : decode cX13_stonesIn 18 = .ok (.aload_n 0, 1) := by decide +kernel
theorem dX13_stonesIn_19 : decode cX13_stonesIn 19 = .ok (.iconst 0, 1) := by decide +kernel
theorem dX13_stonesIn_20 : decode cX13_stonesIn 20 = .ok (.iload_n 3, 1) := by decide +kernel
theorem dX13_stonesIn_21 : decode cX13_stonesIn 21 = .ok (.invokevirtual 507, 3) := by decide +kernel
theorem dX13_stonesIn_24 : decode cX13_stonesIn 24 = .ok (.iload_n 1, 1) := by decide +kernel
theorem dX13_stonesIn_25 : decode cX13_stonesIn 25 = .ok (.if_icmp .ne 9, 3) := by decide +kernel
theorem dX13_stonesIn_28 : decode cX13_stonesIn 28 = .ok (.iconst 1, 1) := by decide +kernel
theorem dX13_stonesIn_29 : decode cX13_stonesIn 29 = .ok (.iload_n 3, 1) := by decide +kernel
theorem dX13_stonesIn_30 : decode cX13_stonesIn 30 = .ok (.ishl, 1) := by decide +kernel
theorem dX13_stonesIn_31 : decode cX13_stonesIn 31 = .ok (.goto 4, 3) := by decide +kernel
theorem dX13_stonesIn_34 : decode cX13_stonesIn 34 = .ok (.iconst 0, 1) := by decide +kernel
theorem dX13_stonesIn_35 : decode cX13_stonesIn 35 = .ok (.ior, 1) := by decide +kernel
theorem dX13_stonesIn_36 : decode cX13_stonesIn 36 = .ok (.istore_n 2, 1) := by decide +kernel
theorem dX13_stonesIn_37 : decode cX13_stonesIn 37 = .ok (.iinc 3 1, 3) := by decide +kernel
theorem dX13_stonesIn_40 : decode cX13_stonesIn 40 = .ok (.goto (-36), 3) := by decide +kernel
theorem dX13_stonesIn_43 : decode cX13_stonesIn 43 = .ok (.iload_n 2, 1) := by decide +kernel
theorem dX13_stonesIn_44 : decode cX13_stonesIn 44 = .ok (.ireturn, 1) := by decide +kernel
theorem dX13_has_0 : decode cX13_has 0 = .ok (.iconst 0, 1) := by decide +kernel
theorem dX13_has_1 : decode cX13_has 1 = .ok (.istore_n 2, 1) := by decide +kernel
theorem dX13_has_2 : decode cX13_has 2 = .ok (.iload_n 1, 1) := by decide +kernel
theorem dX13_has_3 : decode cX13_has 3 = .ok (.tableswitch 233 0 11 #[61, 71, 81, 91, 101, 121, 128, 137, 146, 215, 222, 227], 61) := by decide +kernel
theorem dX13_has_64 : decode cX13_has 64 = .ok (.aload_n 0, 1) := by decide +kernel
theorem dX13_has_65 : decode cX13_has 65 = .ok (.getfield 54, 3) := by decide +kernel
theorem dX13_has_68 : decode cX13_has 68 = .ok (.aload_n 0, 1) := by decide +kernel
theorem dX13_has_69 : decode cX13_has 69 = .ok (.getfield 51, 3) := by decide +kernel
theorem dX13_has_72 : decode cX13_has 72 = .ok (.iaload, 1) := by decide +kernel
theorem dX13_has_73 : decode cX13_has 73 = .ok (.ireturn, 1) := by decide +kernel
theorem dX13_has_74 : decode cX13_has 74 = .ok (.aload_n 0, 1) := by decide +kernel
theorem dX13_has_75 : decode cX13_has 75 = .ok (.getfield 63, 3) := by decide +kernel
theorem dX13_has_78 : decode cX13_has 78 = .ok (.aload_n 0, 1) := by decide +kernel
theorem dX13_has_79 : decode cX13_has 79 = .ok (.getfield 51, 3) := by decide +kernel
theorem dX13_has_82 : decode cX13_has 82 = .ok (.iaload, 1) := by decide +kernel
theorem dX13_has_83 : decode cX13_has 83 = .ok (.ireturn, 1) := by decide +kernel
theorem dX13_has_84 : decode cX13_has 84 = .ok (.aload_n 0, 1) := by decide +kernel
theorem dX13_has_85 : decode cX13_has 85 = .ok (.getfield 84, 3) := by decide +kernel
theorem dX13_has_88 : decode cX13_has 88 = .ok (.aload_n 0, 1) := by decide +kernel
theorem dX13_has_89 : decode cX13_has 89 = .ok (.getfield 51, 3) := by decide +kernel
theorem dX13_has_92 : decode cX13_has 92 = .ok (.iaload, 1) := by decide +kernel
theorem dX13_has_93 : decode cX13_has 93 = .ok (.ireturn, 1) := by decide +kernel
theorem dX13_has_94 : decode cX13_has 94 = .ok (.aload_n 0, 1) := by decide +kernel
theorem dX13_has_95 : decode cX13_has 95 = .ok (.getfield 75, 3) := by decide +kernel
theorem dX13_has_98 : decode cX13_has 98 = .ok (.aload_n 0, 1) := by decide +kernel
theorem dX13_has_99 : decode cX13_has 99 = .ok (.getfield 51, 3) := by decide +kernel
theorem dX13_has_102 : decode cX13_has 102 = .ok (.iaload, 1) := by decide +kernel
theorem dX13_has_103 : decode cX13_has 103 = .ok (.ireturn, 1) := by decide +kernel
theorem dX13_has_104 : decode cX13_has 104 = .ok (.aload_n 0, 1) := by decide +kernel
theorem dX13_has_105 : decode cX13_has 105 = .ok (.getfield 75, 3) := by decide +kernel
theorem dX13_has_108 : decode cX13_has 108 = .ok (.aload_n 0, 1) := by decide +kernel
theorem dX13_has_109 : decode cX13_has 109 = .ok (.getfield 51, 3) := by decide +kernel
theorem dX13_has_112 : decode cX13_has 112 = .ok (.iaload, 1) := by decide +kernel
theorem dX13_has_113 : decode cX13_has 113 = .ok (.aload_n 0, 1) := by decide +kernel
theorem dX13_has_114 : decode cX13_has 114 = .ok (.getfield 165, 3) := by decide +kernel
theorem dX13_has_117 : decode cX13_has 117 = .ok (.iconst 0, 1) := by decide +kernel
theorem dX13_has_118 : decode cX13_has 118 = .ok (.iaload, 1) := by decide +kernel
theorem dX13_has_119 : decode cX13_has 119 = .ok (.invokestatic 568, 3) := by decide +kernel
theorem dX13_has_122 : decode cX13_has 122 = .ok (.isub, 1) := by decide +kernel
theorem dX13_has_123 : decode cX13_has 123 = .ok (.ireturn, 1) := by decide +kernel
theorem dX13_has_124 : decode cX13_has 124 = .ok (.aload_n 0, 1) := by decide +kernel
theorem dX13_has_125 : decode cX13_has 125 = .ok (.getfield 162, 3) := by decide +kernel
theorem dX13_has_128 : decode cX13_has 128 = .ok (.iconst 0, 1) := by decide +kernel
theorem dX13_has_129 : decode cX13_has 129 = .ok (.iaload, 1) := by decide +kernel
theorem dX13_has_130 : decode cX13_has 130 = .ok (.ireturn, 1) := by decide +kernel
theorem dX13_has_131 : decode cX13_has 131 = .ok (.aload_n 0, 1) := by decide +kernel
theorem dX13_has_132 : decode cX13_has 132 = .ok (.iconst 0, 1) := by decide +kernel
theorem dX13_has_133 : decode cX13_has 133 = .ok (.invokevirtual 577, 3) := by decide +kernel
theorem dX13_has_136 : decode cX13_has 136 = .ok (.invokestatic 568, 3) := by decide +kernel
theorem dX13_has_139 : decode cX13_has 139 = .ok (.ireturn, 1) := by decide +kernel
theorem dX13_has_140 : decode cX13_has 140 = .ok (.aload_n 0, 1) := by decide +kernel
theorem dX13_has_141 : decode cX13_has 141 = .ok (.iconst 0, 1) := by decide +kernel
theorem dX13_has_142 : decode cX13_has 142 = .ok (.invokevirtual 580, 3) := by decide +kernel
theorem dX13_has_145 : decode cX13_has 145 = .ok (.invokestatic 568, 3) := by decide +kernel
theorem dX13_has_148 : decode cX13_has 148 = .ok (.ireturn, 1) := by decide +kernel
theorem dX13_has_149 : decode cX13_has 149 = .ok (.iconst 0, 1) := by decide +kernel
theorem dX13_has_150 : decode cX13_has 150 = .ok (.istore_n 3, 1) := by decide +kernel
theorem dX13_has_151 : decode cX13_has 151 = .ok (.iload_n 3, 1) := by decide +kernel
theorem dX13_has_152 : decode cX13_has 152 = .ok (.aload_n 0, 1) := by decide +kernel
theorem dX13_has_153 : decode cX13_has 153 = .ok (.getfield 84, 3) := by decide +kernel
theorem dX13_has_156 : decode cX13_has 156 = .ok (.aload_n 0, 1) := by decide +kernel
theorem dX13_has_157 : decode cX13_has 157 = .ok (.getfield 51, 3) := by decide +kernel
theorem dX13_has_160 : decode cX13_has 160 = .ok (.iaload, 1) := by decide +kernel
theorem dX13_has_161 : decode cX13_has 161 = .ok (.if_icmp .ge 55, 3) := by decide +kernel
theorem dX13_has_164 : decode cX13_has 164 = .ok (.iload_n 2, 1) := by decide +kernel
theorem dX13_has_165 : decode cX13_has 165 = .ok (.aload_n 0, 1) := by decide +kernel
theorem dX13_has_166 : decode cX13_has 166 = .ok (.iload_n 3, 1) := by decide +kernel
theorem dX13_has_167 : decode cX13_has 167 = .ok (.invokevirtual 583, 3) := by decide +kernel
theorem dX13_has_170 : decode cX13_has 170 = .ok (.invokestatic 568, 3) := by decide +kernel
theorem dX13_has_173 : decode cX13_has 173 = .ok (.aload_n 0, 1) := by decide +kernel
theorem dX13_has_174 : decode cX13_has 174 = .ok (.getfield 87, 3) := by decide +kernel
theorem dX13_has_177 : decode cX13_has 177 = .ok (.iconst 4, 1) := by decide +kernel
theorem dX13_has_178 : decode cX13_has 178 = .ok (.aload_n 0, 1) := by decide +kernel
theorem dX13_has_179 : decode cX13_has 179 = .ok (.getfield 51, 3) := by decide +kernel
theorem dX13_has_182 : decode cX13_has 182 = .ok (.imul, 1) := by decide +kernel
theorem dX13_has_183 : decode cX13_has 183 = .ok (.iload_n 3, 1) := by decide +kernel
theorem dX13_has_184 : decode cX13_has 184 = .ok (.iadd, 1) := by decide +kernel
theorem dX13_has_185 : decode cX13_has 185 = .ok (.iaload, 1) := by decide +kernel
theorem dX13_has_186 : decode cX13_has 186 = .ok (.aload_n 0, 1) := by decide +kernel
theorem dX13_has_187 : decode cX13_has 187 = .ok (.getfield 90, 3) := by decide +kernel
theorem dX13_has_190 : decode cX13_has 190 = .ok (.iconst 4, 1) := by decide +kernel
theorem dX13_has_191 : decode cX13_has 191 = .ok (.aload_n 0, 1) := by decide +kernel
theorem dX13_has_192 : decode cX13_has 192 = .ok (.getfield 51, 3) := by decide +kernel
theorem dX13_has_195 : decode cX13_has 195 = .ok (.imul, 1) := by decide +kernel
theorem dX13_has_196 : decode cX13_has 196 = .ok (.iload_n 3, 1) := by decide +kernel
theorem dX13_has_197 : decode cX13_has 197 = .ok (.iadd, 1) := by decide +kernel
theorem dX13_has_198 : decode cX13_has 198 = .ok (.iaload, 1) := by decide +kernel
theorem dX13_has_199 : decode cX13_has 199 = .ok (.imul, 1) := by decide +kernel
theorem dX13_has_200 : decode cX13_has 200 = .ok (.if_icmp .ne 7, 3) := by decide +kernel
theorem dX13_has_203 : decode cX13_has 203 = .ok (.iconst 1, 1) := by decide +kernel
theorem dX13_has_204 : decode cX13_has 204 = .ok (.goto 4, 3) := by decide +kernel
theorem dX13_has_207 : decode cX13_has 207 = .ok (.iconst 0, 1) := by decide +kernel
theorem dX13_has_208 : decode cX13_has 208 = .ok (.iadd, 1) := by decide +kernel
theorem dX13_has_209 : decode cX13_has 209 = .ok (.istore_n 2, 1) := by decide +kernel
theorem dX13_has_210 : decode cX13_has 210 = .ok (.iinc 3 1, 3) := by decide +kernel
theorem dX13_has_213 : decode cX13_has 213 = .ok (.goto (-62), 3) := by decide +kernel
theorem dX13_has_216 : decode cX13_has 216 = .ok (.iload_n 2, 1) := by decide +kernel
theorem dX13_has_217 : decode cX13_has 217 = .ok (.ireturn, 1) := by decide +kernel
theorem dX13_has_218 : decode cX13_has 218 = .ok (.aload_n 0, 1) := by decide +kernel
theorem dX13_has_219 : decode cX13_has 219 = .ok (.getfield 183, 3) := by decide +kernel
theorem dX13_has_222 : decode cX13_has 222 = .ok (.iconst 0, 1) := by decide +kernel
theorem dX13_has_223 : decode cX13_has 223 = .ok (.iaload, 1) := by decide +kernel
theorem dX13_has_224 : decode cX13_has 224 = .ok (.ireturn, 1) := by decide +kernel
theorem dX13_has_225 : decode cX13_has 225 = .ok (.aload_n 0, 1) := by decide +kernel
theorem dX13_has_226 : decode cX13_has 226 = .ok (.getfield 192, 3) := by decide +kernel
theorem dX13_has_229 : decode cX13_has 229 = .ok (.ireturn, 1) := by decide +kernel
theorem dX13_has_230 : decode cX13_has 230 = .ok (.aload_n 0, 1) := by decide +kernel
theorem dX13_has_231 : decode cX13_has 231 = .ok (.getfield 195, 3) := by decide +kernel
theorem dX13_has_234 : decode cX13_has 234 = .ok (.l2i, 1) := by decide +kernel
theorem dX13_has_235 : decode cX13_has 235 = .ok (.ireturn, 1) := by decide +kernel
theorem dX13_has_236 : decode cX13_has 236 = .ok (.iconst (-1), 1) := by decide +kernel
theorem dX13_has_237 : decode cX13_has 237 = .ok (.ireturn, 1) := by decide +kernel
theorem dX13_letter_0 : decode cX13_letter 0 = .ok (.iload_n 1, 1) := by decide +kernel
theorem dX13_letter_1 : decode cX13_letter 1 = .ok (.iconst 0, 1) := by decide +kernel
theorem dX13_letter_2 : decode cX13_letter 2 = .ok (.iconst 2, 1) := by decide +kernel
theorem dX13_letter_3 : decode cX13_letter 3 = .ok (.invokestatic 347, 3) := by decide +kernel
theorem dX13_letter_6 : decode cX13_letter 6 = .ok (.ifCond .eq 31, 3) := by decide +kernel
theorem dX13_letter_9 : decode cX13_letter 9 = .ok (.iload_n 2, 1) := by decide +kernel
theorem dX13_letter_10 : decode cX13_letter 10 = .ok (.iconst 0, 1) := by decide +kernel
theorem dX13_letter_11 : decode cX13_letter 11 = .ok (.aload_n 0, 1) := by decide +kernel
theorem dX13_letter_12 : decode cX13_letter 12 = .ok (.aload_n 0, 1) := by decide +kernel
theorem dX13_letter_13 : decode cX13_letter 13 = .ok (.getfield 51, 3) := by decide +kernel
theorem dX13_letter_16 : decode cX13_letter 16 = .ok (.iload_n 1, 1) := by decide +kernel
theorem dX13_letter_17 : decode cX13_letter 17 = .ok (.invokevirtual 339, 3) := by decide +kernel
theorem dX13_letter_20 : decode cX13_letter 20 = .ok (.iconst 1, 1) := by decide +kernel
theorem dX13_letter_21 : decode cX13_letter 21 = .ok (.isub, 1) := by decide +kernel
theorem dX13_letter_22 : decode cX13_letter 22 = .ok (.invokestatic 347, 3) := by decide +kernel
theorem dX13_letter_25 : decode cX13_letter 25 = .ok (.ifCond .eq 12, 3) := by decide +kernel
theorem dX13_letter_28 : decode cX13_letter 28 = .ok (.iload_n 3, 1) := by decide +kernel
theorem dX13_letter_29 : decode cX13_letter 29 = .ok (.iconst 0, 1) := by decide +kernel
theorem dX13_letter_30 : decode cX13_letter 30 = .ok (.iconst 5, 1) := by decide +kernel
theorem dX13_letter_31 : decode cX13_letter 31 = .ok (.invokestatic 347, 3) := by decide +kernel
theorem dX13_letter_34 : decode cX13_letter 34 = .ok (.ifCond .ne 5, 3) := by decide +kernel
theorem dX13_letter_37 : decode cX13_letter 37 = .ok (.iconst (-1), 1) := by decide +kernel
theorem dX13_letter_38 : decode cX13_letter 38 = .ok (.ireturn, 1) := by decide +kernel
theorem dX13_letter_39 : decode cX13_letter 39 = .ok (.aload_n 0, 1) := by decide +kernel
theorem dX13_letter_40 : decode cX13_letter 40 = .ok (.aload_n 0, 1) := by decide +kernel
theorem dX13_letter_41 : decode cX13_letter 41 = .ok (.getfield 51, 3) := by decide +kernel
theorem dX13_letter_44 : decode cX13_letter 44 = .ok (.iload_n 1, 1) := by decide +kernel
theorem dX13_letter_45 : decode cX13_letter 45 = .ok (.iload_n 2, 1) := by decide +kernel
theorem dX13_letter_46 : decode cX13_letter 46 = .ok (.invokevirtual 343, 3) := by decide +kernel
theorem dX13_letter_49 : decode cX13_letter 49 = .ok (.lstore 4, 2) := by decide +kernel
theorem dX13_letter_51 : decode cX13_letter 51 = .ok (.iconst 0, 1) := by decide +kernel
theorem dX13_letter_52 : decode cX13_letter 52 = .ok (.istore 6, 2) := by decide +kernel
theorem dX13_letter_54 : decode cX13_letter 54 = .ok (.lload 4, 2) := by decide +kernel
theorem dX13_letter_56 : decode cX13_letter 56 = .ok (.lstore 7, 2) := by decide +kernel
theorem dX13_letter_58 : decode cX13_letter 58 = .ok (.lload 7, 2) := by decide +kernel
theorem dX13_letter_60 : decode cX13_letter 60 = .ok (.lconst 0, 1) := by decide +kernel
theorem dX13_letter_61 : decode cX13_letter 61 = .ok (.lcmp, 1) := by decide +kernel
theorem dX13_letter_62 : decode cX13_letter 62 = .ok (.ifCond .le 16, 3) := by decide +kernel
theorem dX13_letter_65 : decode cX13_letter 65 = .ok (.iinc 6 1, 3) := by decide +kernel
theorem dX13_letter_68 : decode cX13_letter 68 = .ok (.lload 7, 2) := by decide +kernel
theorem dX13_letter_70 : decode cX13_letter 70 = .ok (.bipush 8, 2) := by decide +kernel
theorem dX13_letter_72 : decode cX13_letter 72 = .ok (.lshr, 1) := by decide +kernel
theorem dX13_letter_73 : decode cX13_letter 73 = .ok (.lstore 7, 2) := by decide +kernel
theorem dX13_letter_75 : decode cX13_letter 75 = .ok (.goto (-17), 3) := by decide +kernel
theorem dX13_letter_78 : decode cX13_letter 78 = .ok (.iload_n 3, 1) := by decide +kernel
theorem dX13_letter_79 : decode cX13_letter 79 = .ok (.iload 6, 2) := by decide +kernel
theorem dX13_letter_81 : decode cX13_letter 81 = .ok (.if_icmp .lt 7, 3) := by decide +kernel
theorem dX13_letter_84 : decode cX13_letter 84 = .ok (.iconst 0, 1) := by decide +kernel
theorem dX13_letter_85 : decode cX13_letter 85 = .ok (.goto 25, 3) := by decide +kernel
theorem dX13_letter_88 : decode cX13_letter 88 = .ok (.lload 4, 2) := by decide +kernel
theorem dX13_letter_90 : decode cX13_letter 90 = .ok (.bipush 8, 2) := by decide +kernel
theorem dX13_letter_92 : decode cX13_letter 92 = .ok (.iload 6, 2) := by decide +kernel
theorem dX13_letter_94 : decode cX13_letter 94 = .ok (.iconst 1, 1) := by decide +kernel
theorem dX13_letter_95 : decode cX13_letter 95 = .ok (.isub, 1) := by decide +kernel
theorem dX13_letter_96 : decode cX13_letter 96 = .ok (.iload_n 3, 1) := by decide +kernel
theorem dX13_letter_97 : decode cX13_letter 97 = .ok (.isub, 1) := by decide +kernel
theorem dX13_letter_98 : decode cX13_letter 98 = .ok (.imul, 1) := by decide +kernel
theorem dX13_letter_99 : decode cX13_letter 99 = .ok (.lshr, 1) := by decide +kernel
theorem dX13_letter_100 : decode cX13_letter 100 = .ok (.ldc2_w 586, 3) := by decide +kernel
theorem dX13_letter_103 : decode cX13_letter 103 = .ok (.land, 1) := by decide +kernel
theorem dX13_letter_104 : decode cX13_letter 104 = .ok (.l2i, 1) := by decide +kernel
theorem dX13_letter_105 : decode cX13_letter 105 = .ok (.bipush 97, 2) := by decide +kernel
theorem dX13_letter_107 : decode cX13_letter 107 = .ok (.isub, 1) := by decide +kernel
theorem dX13_letter_108 : decode cX13_letter 108 = .ok (.iconst 1, 1) := by decide +kernel
theorem dX13_letter_109 : decode cX13_letter 109 = .ok (.iadd, 1) := by decide +kernel
theorem dX13_letter_110 : decode cX13_letter 110 = .ok (.ireturn, 1) := by decide +kernel
theorem dX13_home_0 : decode cX13_home 0 = .ok (.aload_n 0, 1) := by decide +kernel
theorem dX13_home_1 : decode cX13_home 1 = .ok (.iload_n 1, 1) := by decide +kernel
theorem dX13_home_2 : decode cX13_home 2 = .ok (.invokevirtual 588, 3) := by decide +kernel
theorem dX13_home_5 : decode cX13_home 5 = .ok (.ifCond .ne 5, 3) := by decide +kernel
theorem dX13_home_8 : decode cX13_home 8 = .ok (.iconst (-1), 1) := by decide +kernel
theorem dX13_home_9 : decode cX13_home 9 = .ok (.ireturn, 1) := by decide +kernel
theorem dX13_home_10 : decode cX13_home 10 = .ok (.iload_n 2, 1) := by decide +kernel
theorem dX13_home_11 : decode cX13_home 11 = .ok (.tableswitch 104 0 2 #[25, 40, 55], 25) := by decide +kernel
theorem dX13_home_36 : decode cX13_home 36 = .ok (.aload_n 0, 1) := by decide +kernel
theorem dX13_home_37 : decode cX13_home 37 = .ok (.getfield 57, 3) := by decide +kernel
theorem dX13_home_40 : decode cX13_home 40 = .ok (.bipush 6, 2) := by decide +kernel
theorem dX13_home_42 : decode cX13_home 42 = .ok (.aload_n 0, 1) := by decide +kernel
theorem dX13_home_43 : decode cX13_home 43 = .ok (.getfield 51, 3) := by decide +kernel
theorem dX13_home_46 : decode cX13_home 46 = .ok (.imul, 1) := by decide +kernel
theorem dX13_home_47 : decode cX13_home 47 = .ok (.iload_n 1, 1) := by decide +kernel
theorem dX13_home_48 : decode cX13_home 48 = .ok (.iadd, 1) := by decide +kernel
theorem dX13_home_49 : decode cX13_home 49 = .ok (.iaload, 1) := by decide +kernel
theorem dX13_home_50 : decode cX13_home 50 = .ok (.ireturn, 1) := by decide +kernel
theorem dX13_home_51 : decode cX13_home 51 = .ok (.aload_n 0, 1) := by decide +kernel
theorem dX13_home_52 : decode cX13_home 52 = .ok (.getfield 60, 3) := by decide +kernel
theorem dX13_home_55 : decode cX13_home 55 = .ok (.bipush 6, 2) := by decide +kernel
theorem dX13_home_57 : decode cX13_home 57 = .ok (.aload_n 0, 1) := by decide +kernel
theorem dX13_home_58 : decode cX13_home 58 = .ok (.getfield 51, 3) := by decide +kernel
theorem dX13_home_61 : decode cX13_home 61 = .ok (.imul, 1) := by decide +kernel
theorem dX13_home_62 : decode cX13_home 62 = .ok (.iload_n 1, 1) := by decide +kernel
theorem dX13_home_63 : decode cX13_home 63 = .ok (.iadd, 1) := by decide +kernel
theorem dX13_home_64 : decode cX13_home 64 = .ok (.iaload, 1) := by decide +kernel
theorem dX13_home_65 : decode cX13_home 65 = .ok (.ireturn, 1) := by decide +kernel
theorem dX13_home_66 : decode cX13_home 66 = .ok (.iconst 0, 1) := by decide +kernel
theorem dX13_home_67 : decode cX13_home 67 = .ok (.istore_n 3, 1) := by decide +kernel
theorem dX13_home_68 : decode cX13_home 68 = .ok (.iconst 0, 1) := by decide +kernel
theorem dX13_home_69 : decode cX13_home 69 = .ok (.istore 4, 2) := by decide +kernel
theorem dX13_home_71 : decode cX13_home 71 = .ok (.iload 4, 2) := by decide +kernel
theorem dX13_home_73 : decode cX13_home 73 = .ok (.aload_n 0, 1) := by decide +kernel
theorem dX13_home_74 : decode cX13_home 74 = .ok (.getfield 63, 3) := by decide +kernel
theorem dX13_home_77 : decode cX13_home 77 = .ok (.aload_n 0, 1) := by decide +kernel
theorem dX13_home_78 : decode cX13_home 78 = .ok (.getfield 51, 3) := by decide +kernel
theorem dX13_home_81 : decode cX13_home 81 = .ok (.iaload, 1) := by decide +kernel
theorem dX13_home_82 : decode cX13_home 82 = .ok (.if_icmp .ge 31, 3) := by decide +kernel
theorem dX13_home_85 : decode cX13_home 85 = .ok (.iload_n 3, 1) := by decide +kernel
theorem dX13_home_86 : decode cX13_home 86 = .ok (.aload_n 0, 1) := by decide +kernel
theorem dX13_home_87 : decode cX13_home 87 = .ok (.getfield 168, 3) := by decide +kernel
theorem dX13_home_90 : decode cX13_home 90 = .ok (.iload 4, 2) := by decide +kernel
theorem dX13_home_92 : decode cX13_home 92 = .ok (.iaload, 1) := by decide +kernel
theorem dX13_home_93 : decode cX13_home 93 = .ok (.iload_n 1, 1) := by decide +kernel
theorem dX13_home_94 : decode cX13_home 94 = .ok (.if_icmp .ne 10, 3) := by decide +kernel
theorem dX13_home_97 : decode cX13_home 97 = .ok (.iconst 1, 1) := by decide +kernel
theorem dX13_home_98 : decode cX13_home 98 = .ok (.iload 4, 2) := by decide +kernel
theorem dX13_home_100 : decode cX13_home 100 = .ok (.ishl, 1) := by decide +kernel
theorem dX13_home_101 : decode cX13_home 101 = .ok (.goto 4, 3) := by decide +kernel
theorem dX13_home_104 : decode cX13_home 104 = .ok (.iconst 0, 1) := by decide +kernel
theorem dX13_home_105 : decode cX13_home 105 = .ok (.ior, 1) := by decide +kernel
theorem dX13_home_106 : decode cX13_home 106 = .ok (.istore_n 3, 1) := by decide +kernel
theorem dX13_home_107 : decode cX13_home 107 = .ok (.iinc 4 1, 3) := by decide +kernel
theorem dX13_home_110 : decode cX13_home 110 = .ok (.goto (-39), 3) := by decide +kernel
theorem dX13_home_113 : decode cX13_home 113 = .ok (.iload_n 3, 1) := by decide +kernel
theorem dX13_home_114 : decode cX13_home 114 = .ok (.ireturn, 1) := by decide +kernel
theorem dX13_home_115 : decode cX13_home 115 = .ok (.iconst (-1), 1) := by decide +kernel
theorem dX13_home_116 : decode cX13_home 116 = .ok (.ireturn, 1) := by decide +kernel
theorem dX13_child_0 : decode cX13_child 0 = .ok (.aload_n 0, 1) := by decide +kernel
theorem dX13_child_1 : decode cX13_child 1 = .ok (.iload_n 1, 1) := by decide +kernel
theorem dX13_child_2 : decode cX13_child 2 = .ok (.invokevirtual 591, 3) := by decide +kernel
theorem dX13_child_5 : decode cX13_child 5 = .ok (.ifCond .ne 5, 3) := by decide +kernel
theorem dX13_child_8 : decode cX13_child 8 = .ok (.iconst (-1), 1) := by decide +kernel
theorem dX13_child_9 : decode cX13_child 9 = .ok (.ireturn, 1) := by decide +kernel
theorem dX13_child_10 : decode cX13_child 10 = .ok (.iload_n 2, 1) := by decide +kernel
theorem dX13_child_11 : decode cX13_child 11 = .ok (.ifCond .ne 12, 3) := by decide +kernel
theorem dX13_child_14 : decode cX13_child 14 = .ok (.aload_n 0, 1) := by decide +kernel
theorem dX13_child_15 : decode cX13_child 15 = .ok (.getfield 168, 3) := by decide +kernel
theorem dX13_child_18 : decode cX13_child 18 = .ok (.iload_n 1, 1) := by decide +kernel
theorem dX13_child_19 : decode cX13_child 19 = .ok (.iaload, 1) := by decide +kernel
theorem dX13_child_20 : decode cX13_child 20 = .ok (.goto 53, 3) := by decide +kernel
theorem dX13_child_23 : decode cX13_child 23 = .ok (.iload_n 2, 1) := by decide +kernel
theorem dX13_child_24 : decode cX13_child 24 = .ok (.iconst 1, 1) := by decide +kernel
theorem dX13_child_25 : decode cX13_child 25 = .ok (.if_icmp .ne 11, 3) := by decide +kernel
theorem dX13_child_28 : decode cX13_child 28 = .ok (.aload_n 0, 1) := by decide +kernel
theorem dX13_child_29 : decode cX13_child 29 = .ok (.iload_n 1, 1) := by decide +kernel
theorem dX13_child_30 : decode cX13_child 30 = .ok (.invokevirtual 495, 3) := by decide +kernel
theorem dX13_child_33 : decode cX13_child 33 = .ok (.goto 40, 3) := by decide +kernel
theorem dX13_child_36 : decode cX13_child 36 = .ok (.iload_n 2, 1) := by decide +kernel
theorem dX13_child_37 : decode cX13_child 37 = .ok (.iconst 2, 1) := by decide +kernel
theorem dX13_child_38 : decode cX13_child 38 = .ok (.if_icmp .ne 11, 3) := by decide +kernel
theorem dX13_child_41 : decode cX13_child 41 = .ok (.aload_n 0, 1) := by decide +kernel
theorem dX13_child_42 : decode cX13_child 42 = .ok (.iload_n 1, 1) := by decide +kernel
theorem dX13_child_43 : decode cX13_child 43 = .ok (.invokevirtual 519, 3) := by decide +kernel
theorem dX13_child_46 : decode cX13_child 46 = .ok (.goto 27, 3) := by decide +kernel
theorem dX13_child_49 : decode cX13_child 49 = .ok (.iload_n 2, 1) := by decide +kernel
theorem dX13_child_50 : decode cX13_child 50 = .ok (.iconst 3, 1) := by decide +kernel
theorem dX13_child_51 : decode cX13_child 51 = .ok (.if_icmp .ne 21, 3) := by decide +kernel
theorem dX13_child_54 : decode cX13_child 54 = .ok (.aload_n 0, 1) := by decide +kernel
theorem dX13_child_55 : decode cX13_child 55 = .ok (.aload_n 0, 1) := by decide +kernel
theorem dX13_child_56 : decode cX13_child 56 = .ok (.getfield 51, 3) := by decide +kernel
theorem dX13_child_59 : decode cX13_child 59 = .ok (.iload_n 1, 1) := by decide +kernel
theorem dX13_child_60 : decode cX13_child 60 = .ok (.aload_n 0, 1) := by decide +kernel
theorem dX13_child_61 : decode cX13_child 61 = .ok (.getfield 165, 3) := by decide +kernel
theorem dX13_child_64 : decode cX13_child 64 = .ok (.iconst 0, 1) := by decide +kernel
theorem dX13_child_65 : decode cX13_child 65 = .ok (.iaload, 1) := by decide +kernel
theorem dX13_child_66 : decode cX13_child 66 = .ok (.invokevirtual 415, 3) := by decide +kernel
theorem dX13_child_69 : decode cX13_child 69 = .ok (.goto 4, 3) := by decide +kernel
theorem dX13_child_72 : decode cX13_child 72 = .ok (.iconst (-1), 1) := by decide +kernel
theorem dX13_child_73 : decode cX13_child 73 = .ok (.ireturn, 1) := by decide +kernel
theorem dX13_stone_0 : decode cX13_stone 0 = .ok (.aload_n 0, 1) := by decide +kernel
theorem dX13_stone_1 : decode cX13_stone 1 = .ok (.iload_n 1, 1) := by decide +kernel
theorem dX13_stone_2 : decode cX13_stone 2 = .ok (.invokevirtual 591, 3) := by decide +kernel
theorem dX13_stone_5 : decode cX13_stone 5 = .ok (.ifCond .ne 5, 3) := by decide +kernel
theorem dX13_stone_8 : decode cX13_stone 8 = .ok (.iconst (-1), 1) := by decide +kernel
theorem dX13_stone_9 : decode cX13_stone 9 = .ok (.ireturn, 1) := by decide +kernel
theorem dX13_stone_10 : decode cX13_stone 10 = .ok (.aload_n 0, 1) := by decide +kernel
theorem dX13_stone_11 : decode cX13_stone 11 = .ok (.iconst 0, 1) := by decide +kernel
theorem dX13_stone_12 : decode cX13_stone 12 = .ok (.iload_n 1, 1) := by decide +kernel
theorem dX13_stone_13 : decode cX13_stone 13 = .ok (.invokevirtual 507, 3) := by decide +kernel
theorem dX13_stone_16 : decode cX13_stone 16 = .ok (.iconst (-1), 1) := by decide +kernel
theorem dX13_stone_17 : decode cX13_stone 17 = .ok (.if_icmp .eq 7, 3) := by decide +kernel
theorem dX13_stone_20 : decode cX13_stone 20 = .ok (.iconst 1, 1) := by decide +kernel
theorem dX13_stone_21 : decode cX13_stone 21 = .ok (.goto 4, 3) := by decide +kernel
theorem dX13_stone_24 : decode cX13_stone 24 = .ok (.iconst 0, 1) := by decide +kernel
theorem dX13_stone_25 : decode cX13_stone 25 = .ok (.istore_n 3, 1) := by decide +kernel
theorem dX13_stone_26 : decode cX13_stone 26 = .ok (.iload_n 2, 1) := by decide +kernel
theorem dX13_stone_27 : decode cX13_stone 27 = .ok (.tableswitch 151 0 6 #[41, 48, 84, 91, 106, 121, 136], 41) := by decide +kernel
theorem dX13_stone_68 : decode cX13_stone 68 = .ok (.aload_n 0, 1) := by decide +kernel
theorem dX13_stone_69 : decode cX13_stone 69 = .ok (.iconst 0, 1) := by decide +kernel
theorem dX13_stone_70 : decode cX13_stone 70 = .ok (.iload_n 1, 1) := by decide +kernel
theorem dX13_stone_71 : decode cX13_stone 71 = .ok (.invokevirtual 522, 3) := by decide +kernel
theorem dX13_stone_74 : decode cX13_stone 74 = .ok (.ireturn, 1) := by decide +kernel
theorem dX13_stone_75 : decode cX13_stone 75 = .ok (.iload_n 3, 1) := by decide +kernel
theorem dX13_stone_76 : decode cX13_stone 76 = .ok (.ifCond .eq 7, 3) := by decide +kernel
theorem dX13_stone_79 : decode cX13_stone 79 = .ok (.iconst 3, 1) := by decide +kernel
theorem dX13_stone_80 : decode cX13_stone 80 = .ok (.goto 30, 3) := by decide +kernel
theorem dX13_stone_83 : decode cX13_stone 83 = .ok (.aload_n 0, 1) := by decide +kernel
theorem dX13_stone_84 : decode cX13_stone 84 = .ok (.iconst 0, 1) := by decide +kernel
theorem dX13_stone_85 : decode cX13_stone 85 = .ok (.iload_n 1, 1) := by decide +kernel
theorem dX13_stone_86 : decode cX13_stone 86 = .ok (.invokevirtual 504, 3) := by decide +kernel
theorem dX13_stone_89 : decode cX13_stone 89 = .ok (.ifCond .eq 7, 3) := by decide +kernel
theorem dX13_stone_92 : decode cX13_stone 92 = .ok (.iconst 2, 1) := by decide +kernel
theorem dX13_stone_93 : decode cX13_stone 93 = .ok (.goto 17, 3) := by decide +kernel
theorem dX13_stone_96 : decode cX13_stone 96 = .ok (.aload_n 0, 1) := by decide +kernel
theorem dX13_stone_97 : decode cX13_stone 97 = .ok (.iconst 0, 1) := by decide +kernel
theorem dX13_stone_98 : decode cX13_stone 98 = .ok (.iload_n 1, 1) := by decide +kernel
theorem dX13_stone_99 : decode cX13_stone 99 = .ok (.invokevirtual 556, 3) := by decide +kernel
theorem dX13_stone_102 : decode cX13_stone 102 = .ok (.ifCond .eq 7, 3) := by decide +kernel
theorem dX13_stone_105 : decode cX13_stone 105 = .ok (.iconst 1, 1) := by decide +kernel
theorem dX13_stone_106 : decode cX13_stone 106 = .ok (.goto 4, 3) := by decide +kernel
theorem dX13_stone_109 : decode cX13_stone 109 = .ok (.iconst 0, 1) := by decide +kernel
theorem dX13_stone_110 : decode cX13_stone 110 = .ok (.ireturn, 1) := by decide +kernel
theorem dX13_stone_111 : decode cX13_stone 111 = .ok (.aload_n 0, 1) := by decide +kernel
theorem dX13_stone_112 : decode cX13_stone 112 = .ok (.iconst 0, 1) := by decide +kernel
theorem dX13_stone_113 : decode cX13_stone 113 = .ok (.iload_n 1, 1) := by decide +kernel
theorem dX13_stone_114 : decode cX13_stone 114 = .ok (.invokevirtual 507, 3) := by decide +kernel
theorem dX13_stone_117 : decode cX13_stone 117 = .ok (.ireturn, 1) := by decide +kernel
theorem dX13_stone_118 : decode cX13_stone 118 = .ok (.iload_n 3, 1) := by decide +kernel
theorem dX13_stone_119 : decode cX13_stone 119 = .ok (.ifCond .eq 12, 3) := by decide +kernel
theorem dX13_stone_122 : decode cX13_stone 122 = .ok (.aload_n 0, 1) := by decide +kernel
theorem dX13_stone_123 : decode cX13_stone 123 = .ok (.iconst 0, 1) := by decide +kernel
theorem dX13_stone_124 : decode cX13_stone 124 = .ok (.iload_n 1, 1) := by decide +kernel
theorem dX13_stone_125 : decode cX13_stone 125 = .ok (.invokevirtual 510, 3) := by decide +kernel
theorem dX13_stone_128 : decode cX13_stone 128 = .ok (.goto 4, 3) := by decide +kernel
theorem dX13_stone_131 : decode cX13_stone 131 = .ok (.iconst (-1), 1) := by decide +kernel
theorem dX13_stone_132 : decode cX13_stone 132 = .ok (.ireturn, 1) := by decide +kernel
theorem dX13_stone_133 : decode cX13_stone 133 = .ok (.iload_n 3, 1) := by decide +kernel
theorem dX13_stone_134 : decode cX13_stone 134 = .ok (.ifCond .eq 12, 3) := by decide +kernel
theorem dX13_stone_137 : decode cX13_stone 137 = .ok (.aload_n 0, 1) := by decide +kernel
theorem dX13_stone_138 : decode cX13_stone 138 = .ok (.iconst 0, 1) := by decide +kernel
theorem dX13_stone_139 : decode cX13_stone 139 = .ok (.iload_n 1, 1) := by decide +kernel
theorem dX13_stone_140 : decode cX13_stone 140 = .ok (.invokevirtual 513, 3) := by decide +kernel
theorem dX13_stone_143 : decode cX13_stone 143 = .ok (.goto 4, 3) := by decide +kernel
theorem dX13_stone_146 : decode cX13_stone 146 = .ok (.iconst (-1), 1) := by decide +kernel
theorem dX13_stone_147 : decode cX13_stone 147 = .ok (.ireturn, 1) := by decide +kernel
theorem dX13_stone_148 : decode cX13_stone 148 = .ok (.iload_n 3, 1) := by decide +kernel
theorem dX13_stone_149 : decode cX13_stone 149 = .ok (.ifCond .eq 12, 3) := by decide +kernel
theorem dX13_stone_152 : decode cX13_stone 152 = .ok (.aload_n 0, 1) := by decide +kernel
theorem dX13_stone_153 : decode cX13_stone 153 = .ok (.iconst 0, 1) := by decide +kernel
theorem dX13_stone_154 : decode cX13_stone 154 = .ok (.iload_n 1, 1) := by decide +kernel
theorem dX13_stone_155 : decode cX13_stone 155 = .ok (.invokevirtual 528, 3) := by decide +kernel
theorem dX13_stone_158 : decode cX13_stone 158 = .ok (.goto 4, 3) := by decide +kernel
theorem dX13_stone_161 : decode cX13_stone 161 = .ok (.iconst (-1), 1) := by decide +kernel
theorem dX13_stone_162 : decode cX13_stone 162 = .ok (.ireturn, 1) := by decide +kernel
theorem dX13_stone_163 : decode cX13_stone 163 = .ok (.iload_n 3, 1) := by decide +kernel
theorem dX13_stone_164 : decode cX13_stone 164 = .ok (.ifCond .eq 12, 3) := by decide +kernel
theorem dX13_stone_167 : decode cX13_stone 167 = .ok (.aload_n 0, 1) := by decide +kernel
theorem dX13_stone_168 : decode cX13_stone 168 = .ok (.iconst 0, 1) := by decide +kernel
theorem dX13_stone_169 : decode cX13_stone 169 = .ok (.iload_n 1, 1) := by decide +kernel
theorem dX13_stone_170 : decode cX13_stone 170 = .ok (.invokevirtual 525, 3) := by decide +kernel
theorem dX13_stone_173 : decode cX13_stone 173 = .ok (.goto 4, 3) := by decide +kernel
theorem dX13_stone_176 : decode cX13_stone 176 = .ok (.iconst (-1), 1) := by decide +kernel
theorem dX13_stone_177 : decode cX13_stone 177 = .ok (.ireturn, 1) := by decide +kernel
theorem dX13_stone_178 : decode cX13_stone 178 = .ok (.iconst (-1), 1) := by decide +kernel
theorem dX13_stone_179 : decode cX13_stone 179 = .ok (.ireturn, 1) := by decide +kernel
theorem dX13_wall_0 : decode cX13_wall 0 = .ok (.aload_n 0, 1) := by decide +kernel
theorem dX13_wall_1 : decode cX13_wall 1 = .ok (.iload_n 1, 1) := by decide +kernel
theorem dX13_wall_2 : decode cX13_wall 2 = .ok (.invokevirtual 594, 3) := by decide +kernel
theorem dX13_wall_5 : decode cX13_wall 5 = .ok (.ifCond .ne 5, 3) := by decide +kernel
theorem dX13_wall_8 : decode cX13_wall 8 = .ok (.iconst (-1), 1) := by decide +kernel
theorem dX13_wall_9 : decode cX13_wall 9 = .ok (.ireturn, 1) := by decide +kernel
theorem dX13_wall_10 : decode cX13_wall 10 = .ok (.iload_n 2, 1) := by decide +kernel
theorem dX13_wall_11 : decode cX13_wall 11 = .ok (.iconst 3, 1) := by decide +kernel
theorem dX13_wall_12 : decode cX13_wall 12 = .ok (.if_icmp .ge 62, 3) := by decide +kernel
theorem dX13_wall_15 : decode cX13_wall 15 = .ok (.iload_n 2, 1) := by decide +kernel
theorem dX13_wall_16 : decode cX13_wall 16 = .ok (.ifCond .ne 19, 3) := by decide +kernel
theorem dX13_wall_19 : decode cX13_wall 19 = .ok (.aload_n 0, 1) := by decide +kernel
theorem dX13_wall_20 : decode cX13_wall 20 = .ok (.getfield 87, 3) := by decide +kernel
theorem dX13_wall_23 : decode cX13_wall 23 = .ok (.iconst 4, 1) := by decide +kernel
theorem dX13_wall_24 : decode cX13_wall 24 = .ok (.aload_n 0, 1) := by decide +kernel
theorem dX13_wall_25 : decode cX13_wall 25 = .ok (.getfield 51, 3) := by decide +kernel
theorem dX13_wall_28 : decode cX13_wall 28 = .ok (.imul, 1) := by decide +kernel
theorem dX13_wall_29 : decode cX13_wall 29 = .ok (.iload_n 1, 1) := by decide +kernel
theorem dX13_wall_30 : decode cX13_wall 30 = .ok (.iadd, 1) := by decide +kernel
theorem dX13_wall_31 : decode cX13_wall 31 = .ok (.iaload, 1) := by decide +kernel
theorem dX13_wall_32 : decode cX13_wall 32 = .ok (.goto 41, 3) := by decide +kernel
theorem dX13_wall_35 : decode cX13_wall 35 = .ok (.iload_n 2, 1) := by decide +kernel
theorem dX13_wall_36 : decode cX13_wall 36 = .ok (.iconst 1, 1) := by decide +kernel
theorem dX13_wall_37 : decode cX13_wall 37 = .ok (.if_icmp .ne 19, 3) := by decide +kernel
theorem dX13_wall_40 : decode cX13_wall 40 = .ok (.aload_n 0, 1) := by decide +kernel
theorem dX13_wall_41 : decode cX13_wall 41 = .ok (.getfield 90, 3) := by decide +kernel
theorem dX13_wall_44 : decode cX13_wall 44 = .ok (.iconst 4, 1) := by decide +kernel
theorem dX13_wall_45 : decode cX13_wall 45 = .ok (.aload_n 0, 1) := by decide +kernel
theorem dX13_wall_46 : decode cX13_wall 46 = .ok (.getfield 51, 3) := by decide +kernel
theorem dX13_wall_49 : decode cX13_wall 49 = .ok (.imul, 1) := by decide +kernel
theorem dX13_wall_50 : decode cX13_wall 50 = .ok (.iload_n 1, 1) := by decide +kernel
theorem dX13_wall_51 : decode cX13_wall 51 = .ok (.iadd, 1) := by decide +kernel
theorem dX13_wall_52 : decode cX13_wall 52 = .ok (.iaload, 1) := by decide +kernel
theorem dX13_wall_53 : decode cX13_wall 53 = .ok (.goto 20, 3) := by decide +kernel
theorem dX13_wall_56 : decode cX13_wall 56 = .ok (.iload_n 2, 1) := by decide +kernel
theorem dX13_wall_57 : decode cX13_wall 57 = .ok (.iconst 2, 1) := by decide +kernel
theorem dX13_wall_58 : decode cX13_wall 58 = .ok (.if_icmp .ne 14, 3) := by decide +kernel
theorem dX13_wall_61 : decode cX13_wall 61 = .ok (.aload_n 0, 1) := by decide +kernel
theorem dX13_wall_62 : decode cX13_wall 62 = .ok (.iload_n 1, 1) := by decide +kernel
theorem dX13_wall_63 : decode cX13_wall 63 = .ok (.invokevirtual 583, 3) := by decide +kernel
theorem dX13_wall_66 : decode cX13_wall 66 = .ok (.invokestatic 568, 3) := by decide +kernel
theorem dX13_wall_69 : decode cX13_wall 69 = .ok (.goto 4, 3) := by decide +kernel
theorem dX13_wall_72 : decode cX13_wall 72 = .ok (.iconst (-1), 1) := by decide +kernel
theorem dX13_wall_73 : decode cX13_wall 73 = .ok (.ireturn, 1) := by decide +kernel
theorem dX13_wall_74 : decode cX13_wall 74 = .ok (.iload_n 2, 1) := by decide +kernel
theorem dX13_wall_75 : decode cX13_wall 75 = .ok (.bipush 10, 2) := by decide +kernel
theorem dX13_wall_77 : decode cX13_wall 77 = .ok (.bipush 9, 2) := by decide +kernel
theorem dX13_wall_79 : decode cX13_wall 79 = .ok (.aload_n 0, 1) := by decide +kernel
theorem dX13_wall_80 : decode cX13_wall 80 = .ok (.getfield 87, 3) := by decide +kernel
theorem dX13_wall_83 : decode cX13_wall 83 = .ok (.iconst 4, 1) := by decide +kernel
theorem dX13_wall_84 : decode cX13_wall 84 = .ok (.aload_n 0, 1) := by decide +kernel
theorem dX13_wall_85 : decode cX13_wall 85 = .ok (.getfield 51, 3) := by decide +kernel
theorem dX13_wall_88 : decode cX13_wall 88 = .ok (.imul, 1) := by decide +kernel
theorem dX13_wall_89 : decode cX13_wall 89 = .ok (.iload_n 1, 1) := by decide +kernel
theorem dX13_wall_90 : decode cX13_wall 90 = .ok (.iadd, 1) := by decide +kernel
theorem dX13_wall_91 : decode cX13_wall 91 = .ok (.iaload, 1) := by decide +kernel
theorem dX13_wall_92 : decode cX13_wall 92 = .ok (.iadd, 1) := by decide +kernel
theorem dX13_wall_93 : decode cX13_wall 93 = .ok (.invokestatic 347, 3) := by decide +kernel
theorem dX13_wall_96 : decode cX13_wall 96 = .ok (.ifCond .eq 16, 3) := by decide +kernel
theorem dX13_wall_99 : decode cX13_wall 99 = .ok (.aload_n 0, 1) := by decide +kernel
theorem dX13_wall_100 : decode cX13_wall 100 = .ok (.iconst 0, 1) := by decide +kernel
theorem dX13_wall_101 : decode cX13_wall 101 = .ok (.iload_n 1, 1) := by decide +kernel
theorem dX13_wall_102 : decode cX13_wall 102 = .ok (.iload_n 2, 1) := by decide +kernel
theorem dX13_wall_103 : decode cX13_wall 103 = .ok (.bipush 10, 2) := by decide +kernel
theorem dX13_wall_105 : decode cX13_wall 105 = .ok (.isub, 1) := by decide +kernel
theorem dX13_wall_106 : decode cX13_wall 106 = .ok (.invokevirtual 516, 3) := by decide +kernel
theorem dX13_wall_109 : decode cX13_wall 109 = .ok (.goto 4, 3) := by decide +kernel
theorem dX13_wall_112 : decode cX13_wall 112 = .ok (.iconst (-1), 1) := by decide +kernel
theorem dX13_wall_113 : decode cX13_wall 113 = .ok (.ireturn, 1) := by decide +kernel
theorem dX13_at_0 : decode cX13_at 0 = .ok (.aload_n 0, 1) := by decide +kernel
theorem dX13_at_1 : decode cX13_at 1 = .ok (.iload_n 1, 1) := by decide +kernel
theorem dX13_at_2 : decode cX13_at 2 = .ok (.invokevirtual 594, 3) := by decide +kernel
theorem dX13_at_5 : decode cX13_at 5 = .ok (.ifCond .eq 60, 3) := by decide +kernel
theorem dX13_at_8 : decode cX13_at 8 = .ok (.iload_n 2, 1) := by decide +kernel
theorem dX13_at_9 : decode cX13_at 9 = .ok (.iconst 0, 1) := by decide +kernel
theorem dX13_at_10 : decode cX13_at 10 = .ok (.aload_n 0, 1) := by decide +kernel
theorem dX13_at_11 : decode cX13_at 11 = .ok (.getfield 87, 3) := by decide +kernel
theorem dX13_at_14 : decode cX13_at 14 = .ok (.iconst 4, 1) := by decide +kernel
theorem dX13_at_15 : decode cX13_at 15 = .ok (.aload_n 0, 1) := by decide +kernel
theorem dX13_at_16 : decode cX13_at 16 = .ok (.getfield 51, 3) := by decide +kernel
theorem dX13_at_19 : decode cX13_at 19 = .ok (.imul, 1) := by decide +kernel
theorem dX13_at_20 : decode cX13_at 20 = .ok (.iload_n 1, 1) := by decide +kernel
theorem dX13_at_21 : decode cX13_at 21 = .ok (.iadd, 1) := by decide +kernel
theorem dX13_at_22 : decode cX13_at 22 = .ok (.iaload, 1) := by decide +kernel
theorem dX13_at_23 : decode cX13_at 23 = .ok (.iconst 1, 1) := by decide +kernel
theorem dX13_at_24 : decode cX13_at 24 = .ok (.isub, 1) := by decide +kernel
theorem dX13_at_25 : decode cX13_at 25 = .ok (.invokestatic 347, 3) := by decide +kernel
theorem dX13_at_28 : decode cX13_at 28 = .ok (.ifCond .eq 37, 3) := by decide +kernel
theorem dX13_at_31 : decode cX13_at 31 = .ok (.iload_n 3, 1) := by decide +kernel
theorem dX13_at_32 : decode cX13_at 32 = .ok (.iconst 0, 1) := by decide +kernel
theorem dX13_at_33 : decode cX13_at 33 = .ok (.aload_n 0, 1) := by decide +kernel
theorem dX13_at_34 : decode cX13_at 34 = .ok (.getfield 90, 3) := by decide +kernel
theorem dX13_at_37 : decode cX13_at 37 = .ok (.iconst 4, 1) := by decide +kernel
theorem dX13_at_38 : decode cX13_at 38 = .ok (.aload_n 0, 1) := by decide +kernel
theorem dX13_at_39 : decode cX13_at 39 = .ok (.getfield 51, 3) := by decide +kernel
theorem dX13_at_42 : decode cX13_at 42 = .ok (.imul, 1) := by decide +kernel
theorem dX13_at_43 : decode cX13_at 43 = .ok (.iload_n 1, 1) := by decide +kernel
theorem dX13_at_44 : decode cX13_at 44 = .ok (.iadd, 1) := by decide +kernel
theorem dX13_at_45 : decode cX13_at 45 = .ok (.iaload, 1) := by decide +kernel
theorem dX13_at_46 : decode cX13_at 46 = .ok (.iconst 1, 1) := by decide +kernel
theorem dX13_at_47 : decode cX13_at 47 = .ok (.isub, 1) := by decide +kernel
theorem dX13_at_48 : decode cX13_at 48 = .ok (.invokestatic 347, 3) := by decide +kernel
theorem dX13_at_51 : decode cX13_at 51 = .ok (.ifCond .eq 14, 3) := by decide +kernel
theorem dX13_at_54 : decode cX13_at 54 = .ok (.aload_n 0, 1) := by decide +kernel
theorem dX13_at_55 : decode cX13_at 55 = .ok (.iconst 0, 1) := by decide +kernel
theorem dX13_at_56 : decode cX13_at 56 = .ok (.iload_n 1, 1) := by decide +kernel
theorem dX13_at_57 : decode cX13_at 57 = .ok (.iload_n 2, 1) := by decide +kernel
theorem dX13_at_58 : decode cX13_at 58 = .ok (.iload_n 3, 1) := by decide +kernel
theorem dX13_at_59 : decode cX13_at 59 = .ok (.invokevirtual 534, 3) := by decide +kernel
theorem dX13_at_62 : decode cX13_at 62 = .ok (.goto 4, 3) := by decide +kernel
theorem dX13_at_65 : decode cX13_at 65 = .ok (.iconst (-1), 1) := by decide +kernel
theorem dX13_at_66 : decode cX13_at 66 = .ok (.ireturn, 1) := by decide +kernel
theorem dX13_isAhead_0 : decode cX13_isAhead 0 = .ok (.iload_n 1, 1) := by decide +kernel
theorem dX13_isAhead_1 : decode cX13_isAhead 1 = .ok (.iload_n 2, 1) := by decide +kernel
theorem dX13_isAhead_2 : decode cX13_isAhead 2 = .ok (.iload_n 3, 1) := by decide +kernel
theorem dX13_isAhead_3 : decode cX13_isAhead 3 = .ok (.invokestatic 347, 3) := by decide +kernel
theorem dX13_isAhead_6 : decode cX13_isAhead 6 = .ok (.ifCond .eq 21, 3) := by decide +kernel
theorem dX13_isAhead_9 : decode cX13_isAhead 9 = .ok (.aload_n 0, 1) := by decide +kernel
theorem dX13_isAhead_10 : decode cX13_isAhead 10 = .ok (.getfield 162, 3) := by decide +kernel
theorem dX13_isAhead_13 : decode cX13_isAhead 13 = .ok (.iconst 0, 1) := by decide +kernel
theorem dX13_isAhead_14 : decode cX13_isAhead 14 = .ok (.iaload, 1) := by decide +kernel
theorem dX13_isAhead_15 : decode cX13_isAhead 15 = .ok (.sipush 999, 3) := by decide +kernel
theorem dX13_isAhead_18 : decode cX13_isAhead 18 = .ok (.iload_n 1, 1) := by decide +kernel
theorem dX13_isAhead_19 : decode cX13_isAhead 19 = .ok (.isub, 1) := by decide +kernel
theorem dX13_isAhead_20 : decode cX13_isAhead 20 = .ok (.if_icmp .gt 7, 3) := by decide +kernel
theorem dX13_isAhead_23 : decode cX13_isAhead 23 = .ok (.iconst 1, 1) := by decide +kernel
theorem dX13_isAhead_24 : decode cX13_isAhead 24 = .ok (.goto 4, 3) := by decide +kernel
theorem dX13_isAhead_27 : decode cX13_isAhead 27 = .ok (.iconst 0, 1) := by decide +kernel
theorem dX13_isAhead_28 : decode cX13_isAhead 28 = .ok (.ireturn, 1) := by decide +kernel
theorem dX13_later_0 : decode cX13_later 0 = .ok (.aload_n 0, 1) := by decide +kernel
theorem dX13_later_1 : decode cX13_later 1 = .ok (.iload_n 1, 1) := by decide +kernel
theorem dX13_later_2 : decode cX13_later 2 = .ok (.iconst 0, 1) := by decide +kernel
theorem dX13_later_3 : decode cX13_later 3 = .ok (.bipush 60, 2) := by decide +kernel
theorem dX13_later_5 : decode cX13_later 5 = .ok (.invokevirtual 597, 3) := by decide +kernel
theorem dX13_later_8 : decode cX13_later 8 = .ok (.ifCond .eq 12, 3) := by decide +kernel
theorem dX13_later_11 : decode cX13_later 11 = .ok (.iload_n 2, 1) := by decide +kernel
theorem dX13_later_12 : decode cX13_later 12 = .ok (.iconst 0, 1) := by decide +kernel
theorem dX13_later_13 : decode cX13_later 13 = .ok (.iconst 3, 1) := by decide +kernel
theorem dX13_later_14 : decode cX13_later 14 = .ok (.invokestatic 347, 3) := by decide +kernel
theorem dX13_later_17 : decode cX13_later 17 = .ok (.ifCond .ne 5, 3) := by decide +kernel
theorem dX13_later_20 : decode cX13_later 20 = .ok (.iconst (-1), 1) := by decide +kernel
theorem dX13_later_21 : decode cX13_later 21 = .ok (.ireturn, 1) := by decide +kernel
theorem dX13_later_22 : decode cX13_later 22 = .ok (.aload_n 0, 1) := by decide +kernel
theorem dX13_later_23 : decode cX13_later 23 = .ok (.iconst 1, 1) := by decide +kernel
theorem dX13_later_24 : decode cX13_later 24 = .ok (.iconst 0, 1) := by decide +kernel
theorem dX13_later_25 : decode cX13_later 25 = .ok (.invokevirtual 461, 3) := by decide +kernel
theorem dX13_later_28 : decode cX13_later 28 = .ok (.iconst 0, 1) := by decide +kernel
theorem dX13_later_29 : decode cX13_later 29 = .ok (.istore_n 3, 1) := by decide +kernel
theorem dX13_later_30 : decode cX13_later 30 = .ok (.iconst 0, 1) := by decide +kernel
theorem dX13_later_31 : decode cX13_later 31 = .ok (.istore 4, 2) := by decide +kernel
theorem dX13_later_33 : decode cX13_later 33 = .ok (.iload 4, 2) := by decide +kernel
theorem dX13_later_35 : decode cX13_later 35 = .ok (.iload_n 1, 1) := by decide +kernel
theorem dX13_later_36 : decode cX13_later 36 = .ok (.if_icmp .ge 22, 3) := by decide +kernel
theorem dX13_later_39 : decode cX13_later 39 = .ok (.aload_n 0, 1) := by decide +kernel
theorem dX13_later_40 : decode cX13_later 40 = .ok (.iconst 1, 1) := by decide +kernel
theorem dX13_later_41 : decode cX13_later 41 = .ok (.iconst 0, 1) := by decide +kernel
theorem dX13_later_42 : decode cX13_later 42 = .ok (.invokevirtual 600, 3) := by decide +kernel
theorem dX13_later_45 : decode cX13_later 45 = .ok (.iload_n 3, 1) := by decide +kernel
theorem dX13_later_46 : decode cX13_later 46 = .ok (.aload_n 0, 1) := by decide +kernel
theorem dX13_later_47 : decode cX13_later 47 = .ok (.getfield 207, 3) := by decide +kernel
theorem dX13_later_50 : decode cX13_later 50 = .ok (.iadd, 1) := by decide +kernel
theorem dX13_later_51 : decode cX13_later 51 = .ok (.istore_n 3, 1) := by decide +kernel
theorem dX13_later_52 : decode cX13_later 52 = .ok (.iinc 4 1, 3) := by decide +kernel
theorem dX13_later_55 : decode cX13_later 55 = .ok (.goto (-22), 3) := by decide +kernel
theorem dX13_later_58 : decode cX13_later 58 = .ok (.iload_n 2, 1) := by decide +kernel
theorem dX13_later_59 : decode cX13_later 59 = .ok (.iconst 2, 1) := by decide +kernel
theorem dX13_later_60 : decode cX13_later 60 = .ok (.if_icmp .ne 5, 3) := by decide +kernel
theorem dX13_later_63 : decode cX13_later 63 = .ok (.iload_n 3, 1) := by decide +kernel
theorem dX13_later_64 : decode cX13_later 64 = .ok (.ireturn, 1) := by decide +kernel
theorem dX13_later_65 : decode cX13_later 65 = .ok (.iload_n 2, 1) := by decide +kernel
theorem dX13_later_66 : decode cX13_later 66 = .ok (.iconst 2, 1) := by decide +kernel
theorem dX13_later_67 : decode cX13_later 67 = .ok (.if_icmp .ge 21, 3) := by decide +kernel
theorem dX13_later_70 : decode cX13_later 70 = .ok (.iload_n 2, 1) := by decide +kernel
theorem dX13_later_71 : decode cX13_later 71 = .ok (.ifCond .ne 11, 3) := by decide +kernel
theorem dX13_later_74 : decode cX13_later 74 = .ok (.aload_n 0, 1) := by decide +kernel
theorem dX13_later_75 : decode cX13_later 75 = .ok (.iconst 1, 1) := by decide +kernel
theorem dX13_later_76 : decode cX13_later 76 = .ok (.invokevirtual 580, 3) := by decide +kernel
theorem dX13_later_79 : decode cX13_later 79 = .ok (.goto 8, 3) := by decide +kernel
theorem dX13_later_82 : decode cX13_later 82 = .ok (.aload_n 0, 1) := by decide +kernel
theorem dX13_later_83 : decode cX13_later 83 = .ok (.iconst 1, 1) := by decide +kernel
theorem dX13_later_84 : decode cX13_later 84 = .ok (.invokevirtual 577, 3) := by decide +kernel
theorem dX13_later_87 : decode cX13_later 87 = .ok (.ireturn, 1) := by decide +kernel
theorem dX13_later_88 : decode cX13_later 88 = .ok (.iconst 0, 1) := by decide +kernel
theorem dX13_later_89 : decode cX13_later 89 = .ok (.istore 4, 2) := by decide +kernel
theorem dX13_later_91 : decode cX13_later 91 = .ok (.iconst 0, 1) := by decide +kernel
theorem dX13_later_92 : decode cX13_later 92 = .ok (.istore 5, 2) := by decide +kernel
theorem dX13_later_94 : decode cX13_later 94 = .ok (.iload 5, 2) := by decide +kernel
theorem dX13_later_96 : decode cX13_later 96 = .ok (.aload_n 0, 1) := by decide +kernel
theorem dX13_later_97 : decode cX13_later 97 = .ok (.getfield 63, 3) := by decide +kernel
theorem dX13_later_100 : decode cX13_later 100 = .ok (.aload_n 0, 1) := by decide +kernel
theorem dX13_later_101 : decode cX13_later 101 = .ok (.getfield 51, 3) := by decide +kernel
theorem dX13_later_104 : decode cX13_later 104 = .ok (.iaload, 1) := by decide +kernel
theorem dX13_later_105 : decode cX13_later 105 = .ok (.if_icmp .ge 21, 3) := by decide +kernel
theorem dX13_later_108 : decode cX13_later 108 = .ok (.iload 4, 2) := by decide +kernel
theorem dX13_later_110 : decode cX13_later 110 = .ok (.aload_n 0, 1) := by decide +kernel
theorem dX13_later_111 : decode cX13_later 111 = .ok (.iconst 1, 1) := by decide +kernel
theorem dX13_later_112 : decode cX13_later 112 = .ok (.iload 5, 2) := by decide +kernel
theorem dX13_later_114 : decode cX13_later 114 = .ok (.invokevirtual 522, 3) := by decide +kernel
theorem dX13_later_117 : decode cX13_later 117 = .ok (.iadd, 1) := by decide +kernel
theorem dX13_later_118 : decode cX13_later 118 = .ok (.istore 4, 2) := by decide +kernel
theorem dX13_later_120 : decode cX13_later 120 = .ok (.iinc 5 1, 3) := by decide +kernel
theorem dX13_later_123 : decode cX13_later 123 = .ok (.goto (-29), 3) := by decide +kernel
theorem dX13_later_126 : decode cX13_later 126 = .ok (.iload 4, 2) := by decide +kernel
theorem dX13_later_128 : decode cX13_later 128 = .ok (.ireturn, 1) := by decide +kernel
theorem dX13_built_0 : decode cX13_built 0 = .ok (.aload_n 0, 1) := by decide +kernel
theorem dX13_built_1 : decode cX13_built 1 = .ok (.iload_n 1, 1) := by decide +kernel
theorem dX13_built_2 : decode cX13_built 2 = .ok (.invokevirtual 591, 3) := by decide +kernel
theorem dX13_built_5 : decode cX13_built 5 = .ok (.ifCond .ne 5, 3) := by decide +kernel
theorem dX13_built_8 : decode cX13_built 8 = .ok (.iconst (-1), 1) := by decide +kernel
theorem dX13_built_9 : decode cX13_built 9 = .ok (.ireturn, 1) := by decide +kernel
theorem dX13_built_10 : decode cX13_built 10 = .ok (.aload_n 0, 1) := by decide +kernel
theorem dX13_built_11 : decode cX13_built 11 = .ok (.iconst 1, 1) := by decide +kernel
theorem dX13_built_12 : decode cX13_built 12 = .ok (.iconst 0, 1) := by decide +kernel
theorem dX13_built_13 : decode cX13_built 13 = .ok (.invokevirtual 461, 3) := by decide +kernel
theorem dX13_built_16 : decode cX13_built 16 = .ok (.iconst 0, 1) := by decide +kernel
theorem dX13_built_17 : decode cX13_built 17 = .ok (.istore_n 2, 1) := by decide +kernel
theorem dX13_built_18 : decode cX13_built 18 = .ok (.aload_n 0, 1) := by decide +kernel
theorem dX13_built_19 : decode cX13_built 19 = .ok (.iload_n 2, 1) := by decide +kernel
theorem dX13_built_20 : decode cX13_built 20 = .ok (.iconst 0, 1) := by decide +kernel
theorem dX13_built_21 : decode cX13_built 21 = .ok (.bipush 60, 2) := by decide +kernel
theorem dX13_built_23 : decode cX13_built 23 = .ok (.invokevirtual 597, 3) := by decide +kernel
theorem dX13_built_26 : decode cX13_built 26 = .ok (.ifCond .eq 27, 3) := by decide +kernel
theorem dX13_built_29 : decode cX13_built 29 = .ok (.aload_n 0, 1) := by decide +kernel
theorem dX13_built_30 : decode cX13_built 30 = .ok (.iconst 1, 1) := by decide +kernel
theorem dX13_built_31 : decode cX13_built 31 = .ok (.iload_n 1, 1) := by decide +kernel
theorem dX13_built_32 : decode cX13_built 32 = .ok (.invokevirtual 507, 3) := by decide +kernel
theorem dX13_built_35 : decode cX13_built 35 = .ok (.iconst (-1), 1) := by decide +kernel
theorem dX13_built_36 : decode cX13_built 36 = .ok (.if_icmp .eq 5, 3) := by decide +kernel
theorem dX13_built_39 : decode cX13_built 39 = .ok (.iload_n 2, 1) := by decide +kernel
theorem dX13_built_40 : decode cX13_built 40 = .ok (.ireturn, 1) := by decide +kernel
theorem dX13_built_41 : decode cX13_built 41 = .ok (.aload_n 0, 1) := by decide +kernel
theorem dX13_built_42 : decode cX13_built 42 = .ok (.iconst 1, 1) := by decide +kernel
theorem dX13_built_43 : decode cX13_built 43 = .ok (.iconst 0, 1) := by decide +kernel
theorem dX13_built_44 : decode cX13_built 44 = .ok (.invokevirtual 600, 3) := by decide +kernel
theorem dX13_built_47 : decode cX13_built 47 = .ok (.iinc 2 1, 3) := by decide +kernel
theorem dX13_built_50 : decode cX13_built 50 = .ok (.goto (-32), 3) := by decide +kernel
theorem dX13_built_53 : decode cX13_built 53 = .ok (.iconst (-1), 1) := by decide +kernel
theorem dX13_built_54 : decode cX13_built 54 = .ok (.ireturn, 1) := by decide +kernel
theorem dX13_down_0 : decode cX13_down 0 = .ok (.aload_n 0, 1) := by decide +kernel
theorem dX13_down_1 : decode cX13_down 1 = .ok (.iload_n 1, 1) := by decide +kernel
theorem dX13_down_2 : decode cX13_down 2 = .ok (.invokevirtual 591, 3) := by decide +kernel
theorem dX13_down_5 : decode cX13_down 5 = .ok (.ifCond .eq 13, 3) := by decide +kernel
theorem dX13_down_8 : decode cX13_down 8 = .ok (.aload_n 0, 1) := by decide +kernel
theorem dX13_down_9 : decode cX13_down 9 = .ok (.iconst 0, 1) := by decide +kernel
theorem dX13_down_10 : decode cX13_down 10 = .ok (.iload_n 1, 1) := by decide +kernel
theorem dX13_down_11 : decode cX13_down 11 = .ok (.invokevirtual 507, 3) := by decide +kernel
theorem dX13_down_14 : decode cX13_down 14 = .ok (.iconst (-1), 1) := by decide +kernel
theorem dX13_down_15 : decode cX13_down 15 = .ok (.if_icmp .ne 5, 3) := by decide +kernel
theorem dX13_down_18 : decode cX13_down 18 = .ok (.iconst (-1), 1) := by decide +kernel
theorem dX13_down_19 : decode cX13_down 19 = .ok (.ireturn, 1) := by decide +kernel
theorem dX13_down_20 : decode cX13_down 20 = .ok (.aload_n 0, 1) := by decide +kernel
theorem dX13_down_21 : decode cX13_down 21 = .ok (.iconst 1, 1) := by decide +kernel
theorem dX13_down_22 : decode cX13_down 22 = .ok (.iconst 0, 1) := by decide +kernel
theorem dX13_down_23 : decode cX13_down 23 = .ok (.invokevirtual 461, 3) := by decide +kernel
theorem dX13_down_26 : decode cX13_down 26 = .ok (.aload_n 0, 1) := by decide +kernel
theorem dX13_down_27 : decode cX13_down 27 = .ok (.iconst 1, 1) := by decide +kernel
theorem dX13_down_28 : decode cX13_down 28 = .ok (.iload_n 1, 1) := by decide +kernel
theorem dX13_down_29 : decode cX13_down 29 = .ok (.invokevirtual 544, 3) := by decide +kernel
theorem dX13_down_32 : decode cX13_down 32 = .ok (.istore_n 2, 1) := by decide +kernel
theorem dX13_down_33 : decode cX13_down 33 = .ok (.iload_n 2, 1) := by decide +kernel
theorem dX13_down_34 : decode cX13_down 34 = .ok (.aload_n 0, 1) := by decide +kernel
theorem dX13_down_35 : decode cX13_down 35 = .ok (.iconst 1, 1) := by decide +kernel
theorem dX13_down_36 : decode cX13_down 36 = .ok (.invokevirtual 565, 3) := by decide +kernel
theorem dX13_down_39 : decode cX13_down 39 = .ok (.ior, 1) := by decide +kernel
theorem dX13_down_40 : decode cX13_down 40 = .ok (.ireturn, 1) := by decide +kernel
theorem dX13_areHeld_0 : decode cX13_areHeld 0 = .ok (.iconst 0, 1) := by decide +kernel
theorem dX13_areHeld_1 : decode cX13_areHeld 1 = .ok (.istore_n 3, 1) := by decide +kernel
theorem dX13_areHeld_2 : decode cX13_areHeld 2 = .ok (.iload_n 3, 1) := by decide +kernel
theorem dX13_areHeld_3 : decode cX13_areHeld 3 = .ok (.aload_n 0, 1) := by decide +kernel
theorem dX13_areHeld_4 : decode cX13_areHeld 4 = .ok (.getfield 63, 3) := by decide +kernel
theorem dX13_areHeld_7 : decode cX13_areHeld 7 = .ok (.aload_n 0, 1) := by decide +kernel
theorem dX13_areHeld_8 : decode cX13_areHeld 8 = .ok (.getfield 51, 3) := by decide +kernel
theorem dX13_areHeld_11 : decode cX13_areHeld 11 = .ok (.iaload, 1) := by decide +kernel
theorem dX13_areHeld_12 : decode cX13_areHeld 12 = .ok (.if_icmp .ge 111, 3) := by decide +kernel
theorem dX13_areHeld_15 : decode cX13_areHeld 15 = .ok (.aload_n 0, 1) := by decide +kernel
theorem dX13_areHeld_16 : decode cX13_areHeld 16 = .ok (.iconst 1, 1) := by decide +kernel
theorem dX13_areHeld_17 : decode cX13_areHeld 17 = .ok (.iload_n 3, 1) := by decide +kernel
theorem dX13_areHeld_18 : decode cX13_areHeld 18 = .ok (.invokevirtual 507, 3) := by decide +kernel
theorem dX13_areHeld_21 : decode cX13_areHeld 21 = .ok (.iload_n 1, 1) := by decide +kernel
theorem dX13_areHeld_22 : decode cX13_areHeld 22 = .ok (.if_icmp .ne 95, 3) := by decide +kernel
theorem dX13_areHeld_25 : decode cX13_areHeld 25 = .ok (.iload_n 2, 1) := by decide +kernel
theorem dX13_areHeld_26 : decode cX13_areHeld 26 = .ok (.iload_n 3, 1) := by decide +kernel
theorem dX13_areHeld_27 : decode cX13_areHeld 27 = .ok (.invokestatic 389, 3) := by decide +kernel
theorem dX13_areHeld_30 : decode cX13_areHeld 30 = .ok (.ifCond .eq 6, 3) := by decide +kernel
theorem dX13_areHeld_33 : decode cX13_areHeld 33 = .ok (.goto 84, 3) := by decide +kernel
theorem dX13_areHeld_36 : decode cX13_areHeld 36 = .ok (.iconst 0, 1) := by decide +kernel
theorem dX13_areHeld_37 : decode cX13_areHeld 37 = .ok (.istore 4, 2) := by decide +kernel
theorem dX13_areHeld_39 : decode cX13_areHeld 39 = .ok (.aload_n 0, 1) := by decide +kernel
theorem dX13_areHeld_40 : decode cX13_areHeld 40 = .ok (.iconst 1, 1) := by decide +kernel
theorem dX13_areHeld_41 : decode cX13_areHeld 41 = .ok (.iload_n 3, 1) := by decide +kernel
theorem dX13_areHeld_42 : decode cX13_areHeld 42 = .ok (.invokevirtual 513, 3) := by decide +kernel
theorem dX13_areHeld_45 : decode cX13_areHeld 45 = .ok (.iconst 1, 1) := by decide +kernel
theorem dX13_areHeld_46 : decode cX13_areHeld 46 = .ok (.iadd, 1) := by decide +kernel
theorem dX13_areHeld_47 : decode cX13_areHeld 47 = .ok (.istore 5, 2) := by decide +kernel
theorem dX13_areHeld_49 : decode cX13_areHeld 49 = .ok (.iload 5, 2) := by decide +kernel
theorem dX13_areHeld_51 : decode cX13_areHeld 51 = .ok (.iconst 4, 1) := by decide +kernel
theorem dX13_areHeld_52 : decode cX13_areHeld 52 = .ok (.if_icmp .ge 46, 3) := by decide +kernel
theorem dX13_areHeld_55 : decode cX13_areHeld 55 = .ok (.aload_n 0, 1) := by decide +kernel
theorem dX13_areHeld_56 : decode cX13_areHeld 56 = .ok (.iconst 1, 1) := by decide +kernel
theorem dX13_areHeld_57 : decode cX13_areHeld 57 = .ok (.iload_n 1, 1) := by decide +kernel
theorem dX13_areHeld_58 : decode cX13_areHeld 58 = .ok (.aload_n 0, 1) := by decide +kernel
theorem dX13_areHeld_59 : decode cX13_areHeld 59 = .ok (.iconst 1, 1) := by decide +kernel
theorem dX13_areHeld_60 : decode cX13_areHeld 60 = .ok (.iload_n 3, 1) := by decide +kernel
theorem dX13_areHeld_61 : decode cX13_areHeld 61 = .ok (.invokevirtual 510, 3) := by decide +kernel
theorem dX13_areHeld_64 : decode cX13_areHeld 64 = .ok (.iload 5, 2) := by decide +kernel
theorem dX13_areHeld_66 : decode cX13_areHeld 66 = .ok (.invokevirtual 534, 3) := by decide +kernel
theorem dX13_areHeld_69 : decode cX13_areHeld 69 = .ok (.istore 6, 2) := by decide +kernel
theorem dX13_areHeld_71 : decode cX13_areHeld 71 = .ok (.iload 6, 2) := by decide +kernel
theorem dX13_areHeld_73 : decode cX13_areHeld 73 = .ok (.iconst (-1), 1) := by decide +kernel
theorem dX13_areHeld_74 : decode cX13_areHeld 74 = .ok (.if_icmp .eq 24, 3) := by decide +kernel
theorem dX13_areHeld_77 : decode cX13_areHeld 77 = .ok (.iload_n 2, 1) := by decide +kernel
theorem dX13_areHeld_78 : decode cX13_areHeld 78 = .ok (.iload 6, 2) := by decide +kernel
theorem dX13_areHeld_80 : decode cX13_areHeld 80 = .ok (.invokestatic 389, 3) := by decide +kernel
theorem dX13_areHeld_83 : decode cX13_areHeld 83 = .ok (.ifCond .eq 6, 3) := by decide +kernel
theorem dX13_areHeld_86 : decode cX13_areHeld 86 = .ok (.goto 12, 3) := by decide +kernel
theorem dX13_areHeld_89 : decode cX13_areHeld 89 = .ok (.iinc 4 1, 3) := by decide +kernel
theorem dX13_areHeld_92 : decode cX13_areHeld 92 = .ok (.iinc 5 1, 3) := by decide +kernel
theorem dX13_areHeld_95 : decode cX13_areHeld 95 = .ok (.goto (-46), 3) := by decide +kernel
theorem dX13_areHeld_98 : decode cX13_areHeld 98 = .ok (.aload_n 0, 1) := by decide +kernel
theorem dX13_areHeld_99 : decode cX13_areHeld 99 = .ok (.iconst 1, 1) := by decide +kernel
theorem dX13_areHeld_100 : decode cX13_areHeld 100 = .ok (.iload_n 3, 1) := by decide +kernel
theorem dX13_areHeld_101 : decode cX13_areHeld 101 = .ok (.invokevirtual 525, 3) := by decide +kernel
theorem dX13_areHeld_104 : decode cX13_areHeld 104 = .ok (.iload 4, 2) := by decide +kernel
theorem dX13_areHeld_106 : decode cX13_areHeld 106 = .ok (.aload_n 0, 1) := by decide +kernel
theorem dX13_areHeld_107 : decode cX13_areHeld 107 = .ok (.iconst 2, 1) := by decide +kernel
theorem dX13_areHeld_108 : decode cX13_areHeld 108 = .ok (.invokevirtual 501, 3) := by decide +kernel
theorem dX13_areHeld_111 : decode cX13_areHeld 111 = .ok (.imul, 1) := by decide +kernel
theorem dX13_areHeld_112 : decode cX13_areHeld 112 = .ok (.if_icmp .ge 5, 3) := by decide +kernel
theorem dX13_areHeld_115 : decode cX13_areHeld 115 = .ok (.iconst 0, 1) := by decide +kernel
theorem dX13_areHeld_116 : decode cX13_areHeld 116 = .ok (.ireturn, 1) := by decide +kernel
theorem dX13_areHeld_117 : decode cX13_areHeld 117 = .ok (.iinc 3 1, 3) := by decide +kernel
theorem dX13_areHeld_120 : decode cX13_areHeld 120 = .ok (.goto (-118), 3) := by decide +kernel
theorem dX13_areHeld_123 : decode cX13_areHeld 123 = .ok (.iconst 1, 1) := by decide +kernel
theorem dX13_areHeld_124 : decode cX13_areHeld 124 = .ok (.ireturn, 1) := by decide +kernel
theorem dX13_props_0 : decode cX13_props 0 = .ok (.aload_n 0, 1) := by decide +kernel
theorem dX13_props_1 : decode cX13_props 1 = .ok (.iload_n 1, 1) := by decide +kernel
theorem dX13_props_2 : decode cX13_props 2 = .ok (.invokevirtual 594, 3) := by decide +kernel
theorem dX13_props_5 : decode cX13_props 5 = .ok (.ifCond .ne 5, 3) := by decide +kernel
theorem dX13_props_8 : decode cX13_props 8 = .ok (.iconst (-1), 1) := by decide +kernel
theorem dX13_props_9 : decode cX13_props 9 = .ok (.ireturn, 1) := by decide +kernel
theorem dX13_props_10 : decode cX13_props 10 = .ok (.aload_n 0, 1) := by decide +kernel
theorem dX13_props_11 : decode cX13_props 11 = .ok (.iconst 1, 1) := by decide +kernel
theorem dX13_props_12 : decode cX13_props 12 = .ok (.iconst 0, 1) := by decide +kernel
theorem dX13_props_13 : decode cX13_props 13 = .ok (.invokevirtual 461, 3) := by decide +kernel
theorem dX13_props_16 : decode cX13_props 16 = .ok (.aload_n 0, 1) := by decide +kernel
theorem dX13_props_17 : decode cX13_props 17 = .ok (.iconst 1, 1) := by decide +kernel
theorem dX13_props_18 : decode cX13_props 18 = .ok (.invokevirtual 562, 3) := by decide +kernel
theorem dX13_props_21 : decode cX13_props 21 = .ok (.aload_n 0, 1) := by decide +kernel
theorem dX13_props_22 : decode cX13_props 22 = .ok (.iload_n 1, 1) := by decide +kernel
theorem dX13_props_23 : decode cX13_props 23 = .ok (.invokevirtual 583, 3) := by decide +kernel
theorem dX13_props_26 : decode cX13_props 26 = .ok (.istore_n 2, 1) := by decide +kernel
theorem dX13_props_27 : decode cX13_props 27 = .ok (.iconst (-1), 1) := by decide +kernel
theorem dX13_props_28 : decode cX13_props 28 = .ok (.istore_n 3, 1) := by decide +kernel
theorem dX13_props_29 : decode cX13_props 29 = .ok (.iconst 0, 1) := by decide +kernel
theorem dX13_props_30 : decode cX13_props 30 = .ok (.istore 4, 2) := by decide +kernel
theorem dX13_props_32 : decode cX13_props 32 = .ok (.iload 4, 2) := by decide +kernel
theorem dX13_props_34 : decode cX13_props 34 = .ok (.iload_n 2, 1) := by decide +kernel
theorem dX13_props_35 : decode cX13_props 35 = .ok (.if_icmp .gt 51, 3) := by decide +kernel
theorem dX13_props_38 : decode cX13_props 38 = .ok (.iload 4, 2) := by decide +kernel
theorem dX13_props_40 : decode cX13_props 40 = .ok (.iload_n 2, 1) := by decide +kernel
theorem dX13_props_41 : decode cX13_props 41 = .ok (.iconst (-1), 1) := by decide +kernel
theorem dX13_props_42 : decode cX13_props 42 = .ok (.ixor, 1) := by decide +kernel
theorem dX13_props_43 : decode cX13_props 43 = .ok (.iand, 1) := by decide +kernel
theorem dX13_props_44 : decode cX13_props 44 = .ok (.ifCond .ne 36, 3) := by decide +kernel
theorem dX13_props_47 : decode cX13_props 47 = .ok (.iload_n 3, 1) := by decide +kernel
theorem dX13_props_48 : decode cX13_props 48 = .ok (.iconst (-1), 1) := by decide +kernel
theorem dX13_props_49 : decode cX13_props 49 = .ok (.if_icmp .eq 18, 3) := by decide +kernel
theorem dX13_props_52 : decode cX13_props 52 = .ok (.iload 4, 2) := by decide +kernel
theorem dX13_props_54 : decode cX13_props 54 = .ok (.invokestatic 568, 3) := by decide +kernel
theorem dX13_props_57 : decode cX13_props 57 = .ok (.iload_n 3, 1) := by decide +kernel
theorem dX13_props_58 : decode cX13_props 58 = .ok (.invokestatic 568, 3) := by decide +kernel
theorem dX13_props_61 : decode cX13_props 61 = .ok (.if_icmp .lt 6, 3) := by decide +kernel
theorem dX13_props_64 : decode cX13_props 64 = .ok (.goto 16, 3) := by decide +kernel
theorem dX13_props_67 : decode cX13_props 67 = .ok (.aload_n 0, 1) := by decide +kernel
theorem dX13_props_68 : decode cX13_props 68 = .ok (.iload_n 1, 1) := by decide +kernel
theorem dX13_props_69 : decode cX13_props 69 = .ok (.iload 4, 2) := by decide +kernel
theorem dX13_props_71 : decode cX13_props 71 = .ok (.invokevirtual 604, 3) := by decide +kernel
theorem dX13_props_74 : decode cX13_props 74 = .ok (.ifCond .eq 6, 3) := by decide +kernel
theorem dX13_props_77 : decode cX13_props 77 = .ok (.iload 4, 2) := by decide +kernel
theorem dX13_props_79 : decode cX13_props 79 = .ok (.istore_n 3, 1) := by decide +kernel
theorem dX13_props_80 : decode cX13_props 80 = .ok (.iinc 4 1, 3) := by decide +kernel
theorem dX13_props_83 : decode cX13_props 83 = .ok (.goto (-51), 3) := by decide +kernel
theorem dX13_props_86 : decode cX13_props 86 = .ok (.iload_n 3, 1) := by decide +kernel
theorem dX13_props_87 : decode cX13_props 87 = .ok (.ireturn, 1) := by decide +kernel
theorem dX13_strongest_0 : decode cX13_strongest 0 = .ok (.aload_n 0, 1) := by decide +kernel
theorem dX13_strongest_1 : decode cX13_strongest 1 = .ok (.iload_n 1, 1) := by decide +kernel
theorem dX13_strongest_2 : decode cX13_strongest 2 = .ok (.invokevirtual 591, 3) := by decide +kernel
theorem dX13_strongest_5 : decode cX13_strongest 5 = .ok (.ifCond .eq 21, 3) := by decide +kernel
theorem dX13_strongest_8 : decode cX13_strongest 8 = .ok (.aload_n 0, 1) := by decide +kernel
theorem dX13_strongest_9 : decode cX13_strongest 9 = .ok (.iconst 0, 1) := by decide +kernel
theorem dX13_strongest_10 : decode cX13_strongest 10 = .ok (.iload_n 1, 1) := by decide +kernel
theorem dX13_strongest_11 : decode cX13_strongest 11 = .ok (.invokevirtual 504, 3) := by decide +kernel
theorem dX13_strongest_14 : decode cX13_strongest 14 = .ok (.ifCond .ne 12, 3) := by decide +kernel
theorem dX13_strongest_17 : decode cX13_strongest 17 = .ok (.iload_n 2, 1) := by decide +kernel
theorem dX13_strongest_18 : decode cX13_strongest 18 = .ok (.iconst 0, 1) := by decide +kernel
theorem dX13_strongest_19 : decode cX13_strongest 19 = .ok (.iconst 1, 1) := by decide +kernel
theorem dX13_strongest_20 : decode cX13_strongest 20 = .ok (.invokestatic 347, 3) := by decide +kernel
theorem dX13_strongest_23 : decode cX13_strongest 23 = .ok (.ifCond .ne 5, 3) := by decide +kernel
theorem dX13_strongest_26 : decode cX13_strongest 26 = .ok (.iconst (-1), 1) := by decide +kernel
theorem dX13_strongest_27 : decode cX13_strongest 27 = .ok (.ireturn, 1) := by decide +kernel
theorem dX13_strongest_28 : decode cX13_strongest 28 = .ok (.iconst (-1), 1) := by decide +kernel
theorem dX13_strongest_29 : decode cX13_strongest 29 = .ok (.istore_n 3, 1) := by decide +kernel
theorem dX13_strongest_30 : decode cX13_strongest 30 = .ok (.iconst (-1), 1) := by decide +kernel
theorem dX13_strongest_31 : decode cX13_strongest 31 = .ok (.istore 4, 2) := by decide +kernel
theorem dX13_strongest_33 : decode cX13_strongest 33 = .ok (.iconst 0, 1) := by decide +kernel
theorem dX13_strongest_34 : decode cX13_strongest 34 = .ok (.istore 5, 2) := by decide +kernel
theorem dX13_strongest_36 : decode cX13_strongest 36 = .ok (.iload 5, 2) := by decide +kernel
theorem dX13_strongest_38 : decode cX13_strongest 38 = .ok (.aload_n 0, 1) := by decide +kernel
theorem dX13_strongest_39 : decode cX13_strongest 39 = .ok (.getfield 54, 3) := by decide +kernel
theorem dX13_strongest_42 : decode cX13_strongest 42 = .ok (.aload_n 0, 1) := by decide +kernel
theorem dX13_strongest_43 : decode cX13_strongest 43 = .ok (.getfield 51, 3) := by decide +kernel
theorem dX13_strongest_46 : decode cX13_strongest 46 = .ok (.iaload, 1) := by decide +kernel
theorem dX13_strongest_47 : decode cX13_strongest 47 = .ok (.if_icmp .ge 100, 3) := by decide +kernel
theorem dX13_strongest_50 : decode cX13_strongest 50 = .ok (.aload_n 0, 1) := by decide +kernel
theorem dX13_strongest_51 : decode cX13_strongest 51 = .ok (.iconst 0, 1) := by decide +kernel
theorem dX13_strongest_52 : decode cX13_strongest 52 = .ok (.iload_n 1, 1) := by decide +kernel
theorem dX13_strongest_53 : decode cX13_strongest 53 = .ok (.invokevirtual 522, 3) := by decide +kernel
theorem dX13_strongest_56 : decode cX13_strongest 56 = .ok (.istore 6, 2) := by decide +kernel
theorem dX13_strongest_58 : decode cX13_strongest 58 = .ok (.aload_n 0, 1) := by decide +kernel
theorem dX13_strongest_59 : decode cX13_strongest 59 = .ok (.getfield 162, 3) := by decide +kernel
theorem dX13_strongest_62 : decode cX13_strongest 62 = .ok (.iconst 0, 1) := by decide +kernel
theorem dX13_strongest_63 : decode cX13_strongest 63 = .ok (.iaload, 1) := by decide +kernel
theorem dX13_strongest_64 : decode cX13_strongest 64 = .ok (.istore 7, 2) := by decide +kernel
theorem dX13_strongest_66 : decode cX13_strongest 66 = .ok (.iload 7, 2) := by decide +kernel
theorem dX13_strongest_68 : decode cX13_strongest 68 = .ok (.aload_n 0, 1) := by decide +kernel
theorem dX13_strongest_69 : decode cX13_strongest 69 = .ok (.iload_n 1, 1) := by decide +kernel
theorem dX13_strongest_70 : decode cX13_strongest 70 = .ok (.invokevirtual 495, 3) := by decide +kernel
theorem dX13_strongest_73 : decode cX13_strongest 73 = .ok (.aload_n 0, 1) := by decide +kernel
theorem dX13_strongest_74 : decode cX13_strongest 74 = .ok (.iconst 1, 1) := by decide +kernel
theorem dX13_strongest_75 : decode cX13_strongest 75 = .ok (.invokevirtual 501, 3) := by decide +kernel
theorem dX13_strongest_78 : decode cX13_strongest 78 = .ok (.iadd, 1) := by decide +kernel
theorem dX13_strongest_79 : decode cX13_strongest 79 = .ok (.if_icmp .ge 45, 3) := by decide +kernel
theorem dX13_strongest_82 : decode cX13_strongest 82 = .ok (.iload 7, 2) := by decide +kernel
theorem dX13_strongest_84 : decode cX13_strongest 84 = .ok (.aload_n 0, 1) := by decide +kernel
theorem dX13_strongest_85 : decode cX13_strongest 85 = .ok (.iload_n 1, 1) := by decide +kernel
theorem dX13_strongest_86 : decode cX13_strongest 86 = .ok (.invokevirtual 495, 3) := by decide +kernel
theorem dX13_strongest_89 : decode cX13_strongest 89 = .ok (.aload_n 0, 1) := by decide +kernel
theorem dX13_strongest_90 : decode cX13_strongest 90 = .ok (.iconst 0, 1) := by decide +kernel
theorem dX13_strongest_91 : decode cX13_strongest 91 = .ok (.invokevirtual 501, 3) := by decide +kernel
theorem dX13_strongest_94 : decode cX13_strongest 94 = .ok (.iadd, 1) := by decide +kernel
theorem dX13_strongest_95 : decode cX13_strongest 95 = .ok (.if_icmp .lt 23, 3) := by decide +kernel
theorem dX13_strongest_98 : decode cX13_strongest 98 = .ok (.aload_n 0, 1) := by decide +kernel
theorem dX13_strongest_99 : decode cX13_strongest 99 = .ok (.iload 5, 2) := by decide +kernel
theorem dX13_strongest_101 : decode cX13_strongest 101 = .ok (.iload 7, 2) := by decide +kernel
theorem dX13_strongest_103 : decode cX13_strongest 103 = .ok (.aload_n 0, 1) := by decide +kernel
theorem dX13_strongest_104 : decode cX13_strongest 104 = .ok (.iload_n 1, 1) := by decide +kernel
theorem dX13_strongest_105 : decode cX13_strongest 105 = .ok (.invokevirtual 495, 3) := by decide +kernel
theorem dX13_strongest_108 : decode cX13_strongest 108 = .ok (.isub, 1) := by decide +kernel
theorem dX13_strongest_109 : decode cX13_strongest 109 = .ok (.iload 6, 2) := by decide +kernel
theorem dX13_strongest_111 : decode cX13_strongest 111 = .ok (.iload 7, 2) := by decide +kernel
theorem dX13_strongest_113 : decode cX13_strongest 113 = .ok (.invokevirtual 559, 3) := by decide +kernel
theorem dX13_strongest_116 : decode cX13_strongest 116 = .ok (.istore 6, 2) := by decide +kernel
theorem dX13_strongest_118 : decode cX13_strongest 118 = .ok (.iinc 7 1, 3) := by decide +kernel
theorem dX13_strongest_121 : decode cX13_strongest 121 = .ok (.goto (-55), 3) := by decide +kernel
theorem dX13_strongest_124 : decode cX13_strongest 124 = .ok (.iload 6, 2) := by decide +kernel
theorem dX13_strongest_126 : decode cX13_strongest 126 = .ok (.iload 4, 2) := by decide +kernel
theorem dX13_strongest_128 : decode cX13_strongest 128 = .ok (.if_icmp .gt 6, 3) := by decide +kernel
theorem dX13_strongest_131 : decode cX13_strongest 131 = .ok (.goto 10, 3) := by decide +kernel
theorem dX13_strongest_134 : decode cX13_strongest 134 = .ok (.iload 6, 2) := by decide +kernel
theorem dX13_strongest_136 : decode cX13_strongest 136 = .ok (.istore 4, 2) := by decide +kernel
theorem dX13_strongest_138 : decode cX13_strongest 138 = .ok (.iload 5, 2) := by decide +kernel
theorem dX13_strongest_140 : decode cX13_strongest 140 = .ok (.istore_n 3, 1) := by decide +kernel
theorem dX13_strongest_141 : decode cX13_strongest 141 = .ok (.iinc 5 1, 3) := by decide +kernel
theorem dX13_strongest_144 : decode cX13_strongest 144 = .ok (.goto (-108), 3) := by decide +kernel
theorem dX13_strongest_147 : decode cX13_strongest 147 = .ok (.iload_n 2, 1) := by decide +kernel
theorem dX13_strongest_148 : decode cX13_strongest 148 = .ok (.ifCond .ne 7, 3) := by decide +kernel
theorem dX13_strongest_151 : decode cX13_strongest 151 = .ok (.iload_n 3, 1) := by decide +kernel
theorem dX13_strongest_152 : decode cX13_strongest 152 = .ok (.goto 5, 3) := by decide +kernel
theorem dX13_strongest_155 : decode cX13_strongest 155 = .ok (.iload 4, 2) := by decide +kernel
theorem dX13_strongest_157 : decode cX13_strongest 157 = .ok (.ireturn, 1) := by decide +kernel
theorem dX13_isRow_0 : decode cX13_isRow 0 = .ok (.iload_n 1, 1) := by decide +kernel
theorem dX13_isRow_1 : decode cX13_isRow 1 = .ok (.istore_n 3, 1) := by decide +kernel
theorem dX13_isRow_2 : decode cX13_isRow 2 = .ok (.iconst 0, 1) := by decide +kernel
theorem dX13_isRow_3 : decode cX13_isRow 3 = .ok (.istore 4, 2) := by decide +kernel
theorem dX13_isRow_5 : decode cX13_isRow 5 = .ok (.iload_n 2, 1) := by decide +kernel
theorem dX13_isRow_6 : decode cX13_isRow 6 = .ok (.iconst 1, 1) := by decide +kernel
theorem dX13_isRow_7 : decode cX13_isRow 7 = .ok (.isub, 1) := by decide +kernel
theorem dX13_isRow_8 : decode cX13_isRow 8 = .ok (.istore 5, 2) := by decide +kernel
theorem dX13_isRow_10 : decode cX13_isRow 10 = .ok (.iload 5, 2) := by decide +kernel
theorem dX13_isRow_12 : decode cX13_isRow 12 = .ok (.ifCond .lt 37, 3) := by decide +kernel
theorem dX13_isRow_15 : decode cX13_isRow 15 = .ok (.aload_n 0, 1) := by decide +kernel
theorem dX13_isRow_16 : decode cX13_isRow 16 = .ok (.getfield 213, 3) := by decide +kernel
theorem dX13_isRow_19 : decode cX13_isRow 19 = .ok (.iload 5, 2) := by decide +kernel
theorem dX13_isRow_21 : decode cX13_isRow 21 = .ok (.iload_n 3, 1) := by decide +kernel
theorem dX13_isRow_22 : decode cX13_isRow 22 = .ok (.iload_n 2, 1) := by decide +kernel
theorem dX13_isRow_23 : decode cX13_isRow 23 = .ok (.irem, 1) := by decide +kernel
theorem dX13_isRow_24 : decode cX13_isRow 24 = .ok (.iastore, 1) := by decide +kernel
theorem dX13_isRow_25 : decode cX13_isRow 25 = .ok (.iload 4, 2) := by decide +kernel
theorem dX13_isRow_27 : decode cX13_isRow 27 = .ok (.iconst 1, 1) := by decide +kernel
theorem dX13_isRow_28 : decode cX13_isRow 28 = .ok (.aload_n 0, 1) := by decide +kernel
theorem dX13_isRow_29 : decode cX13_isRow 29 = .ok (.getfield 213, 3) := by decide +kernel
theorem dX13_isRow_32 : decode cX13_isRow 32 = .ok (.iload 5, 2) := by decide +kernel
theorem dX13_isRow_34 : decode cX13_isRow 34 = .ok (.iaload, 1) := by decide +kernel
theorem dX13_isRow_35 : decode cX13_isRow 35 = .ok (.ishl, 1) := by decide +kernel
theorem dX13_isRow_36 : decode cX13_isRow 36 = .ok (.ior, 1) := by decide +kernel
theorem dX13_isRow_37 : decode cX13_isRow 37 = .ok (.istore 4, 2) := by decide +kernel
theorem dX13_isRow_39 : decode cX13_isRow 39 = .ok (.iload_n 3, 1) := by decide +kernel
theorem dX13_isRow_40 : decode cX13_isRow 40 = .ok (.iload_n 2, 1) := by decide +kernel
theorem dX13_isRow_41 : decode cX13_isRow 41 = .ok (.idiv, 1) := by decide +kernel
theorem dX13_isRow_42 : decode cX13_isRow 42 = .ok (.istore_n 3, 1) := by decide +kernel
theorem dX13_isRow_43 : decode cX13_isRow 43 = .ok (.iinc 5 (-1), 3) := by decide +kernel
theorem dX13_isRow_46 : decode cX13_isRow 46 = .ok (.goto (-36), 3) := by decide +kernel
theorem dX13_isRow_49 : decode cX13_isRow 49 = .ok (.iload 4, 2) := by decide +kernel
theorem dX13_isRow_51 : decode cX13_isRow 51 = .ok (.iconst 1, 1) := by decide +kernel
theorem dX13_isRow_52 : decode cX13_isRow 52 = .ok (.iload_n 2, 1) := by decide +kernel
theorem dX13_isRow_53 : decode cX13_isRow 53 = .ok (.ishl, 1) := by decide +kernel
theorem dX13_isRow_54 : decode cX13_isRow 54 = .ok (.iconst 1, 1) := by decide +kernel
theorem dX13_isRow_55 : decode cX13_isRow 55 = .ok (.isub, 1) := by decide +kernel
theorem dX13_isRow_56 : decode cX13_isRow 56 = .ok (.if_icmp .ne 7, 3) := by decide +kernel
theorem dX13_isRow_59 : decode cX13_isRow 59 = .ok (.iconst 1, 1) := by decide +kernel
theorem dX13_isRow_60 : decode cX13_isRow 60 = .ok (.goto 4, 3) := by decide +kernel
theorem dX13_isRow_63 : decode cX13_isRow 63 = .ok (.iconst 0, 1) := by decide +kernel
theorem dX13_isRow_64 : decode cX13_isRow 64 = .ok (.ireturn, 1) := by decide +kernel
theorem dX13_order_0 : decode cX13_order 0 = .ok (.aload_n 0, 1) := by decide +kernel
theorem dX13_order_1 : decode cX13_order 1 = .ok (.iconst 0, 1) := by decide +kernel
theorem dX13_order_2 : decode cX13_order 2 = .ok (.invokevirtual 577, 3) := by decide +kernel
theorem dX13_order_5 : decode cX13_order 5 = .ok (.invokestatic 568, 3) := by decide +kernel
theorem dX13_order_8 : decode cX13_order 8 = .ok (.istore_n 2, 1) := by decide +kernel
theorem dX13_order_9 : decode cX13_order 9 = .ok (.iload_n 2, 1) := by decide +kernel
theorem dX13_order_10 : decode cX13_order 10 = .ok (.bipush 6, 2) := by decide +kernel
theorem dX13_order_12 : decode cX13_order 12 = .ok (.if_icmp .gt 19, 3) := by decide +kernel
theorem dX13_order_15 : decode cX13_order 15 = .ok (.iload_n 1, 1) := by decide +kernel
theorem dX13_order_16 : decode cX13_order 16 = .ok (.iconst (-1), 1) := by decide +kernel
theorem dX13_order_17 : decode cX13_order 17 = .ok (.if_icmp .eq 16, 3) := by decide +kernel
theorem dX13_order_20 : decode cX13_order 20 = .ok (.iload_n 1, 1) := by decide +kernel
theorem dX13_order_21 : decode cX13_order 21 = .ok (.iconst 0, 1) := by decide +kernel
theorem dX13_order_22 : decode cX13_order 22 = .ok (.iload_n 2, 1) := by decide +kernel
theorem dX13_order_23 : decode cX13_order 23 = .ok (.iconst 1, 1) := by decide +kernel
theorem dX13_order_24 : decode cX13_order 24 = .ok (.isub, 1) := by decide +kernel
theorem dX13_order_25 : decode cX13_order 25 = .ok (.invokestatic 347, 3) := by decide +kernel
theorem dX13_order_28 : decode cX13_order 28 = .ok (.ifCond .ne 5, 3) := by decide +kernel
theorem dX13_order_31 : decode cX13_order 31 = .ok (.iconst (-1), 1) := by decide +kernel
theorem dX13_order_32 : decode cX13_order 32 = .ok (.ireturn, 1) := by decide +kernel
theorem dX13_order_33 : decode cX13_order 33 = .ok (.iconst 0, 1) := by decide +kernel
theorem dX13_order_34 : decode cX13_order 34 = .ok (.istore_n 3, 1) := by decide +kernel
theorem dX13_order_35 : decode cX13_order 35 = .ok (.iconst 1, 1) := by decide +kernel
theorem dX13_order_36 : decode cX13_order 36 = .ok (.istore 4, 2) := by decide +kernel
theorem dX13_order_38 : decode cX13_order 38 = .ok (.iconst 0, 1) := by decide +kernel
theorem dX13_order_39 : decode cX13_order 39 = .ok (.istore 5, 2) := by decide +kernel
theorem dX13_order_41 : decode cX13_order 41 = .ok (.iload 5, 2) := by decide +kernel
theorem dX13_order_43 : decode cX13_order 43 = .ok (.aload_n 0, 1) := by decide +kernel
theorem dX13_order_44 : decode cX13_order 44 = .ok (.getfield 63, 3) := by decide +kernel
theorem dX13_order_47 : decode cX13_order 47 = .ok (.aload_n 0, 1) := by decide +kernel
theorem dX13_order_48 : decode cX13_order 48 = .ok (.getfield 51, 3) := by decide +kernel
theorem dX13_order_51 : decode cX13_order 51 = .ok (.iaload, 1) := by decide +kernel
theorem dX13_order_52 : decode cX13_order 52 = .ok (.if_icmp .ge 39, 3) := by decide +kernel
theorem dX13_order_55 : decode cX13_order 55 = .ok (.aload_n 0, 1) := by decide +kernel
theorem dX13_order_56 : decode cX13_order 56 = .ok (.iconst 0, 1) := by decide +kernel
theorem dX13_order_57 : decode cX13_order 57 = .ok (.iload 5, 2) := by decide +kernel
theorem dX13_order_59 : decode cX13_order 59 = .ok (.invokevirtual 571, 3) := by decide +kernel
theorem dX13_order_62 : decode cX13_order 62 = .ok (.ifCond .ne 6, 3) := by decide +kernel
theorem dX13_order_65 : decode cX13_order 65 = .ok (.goto 20, 3) := by decide +kernel
theorem dX13_order_68 : decode cX13_order 68 = .ok (.aload_n 0, 1) := by decide +kernel
theorem dX13_order_69 : decode cX13_order 69 = .ok (.getfield 210, 3) := by decide +kernel
theorem dX13_order_72 : decode cX13_order 72 = .ok (.iload_n 3, 1) := by decide +kernel
theorem dX13_order_73 : decode cX13_order 73 = .ok (.iload 5, 2) := by decide +kernel
theorem dX13_order_75 : decode cX13_order 75 = .ok (.iastore, 1) := by decide +kernel
theorem dX13_order_76 : decode cX13_order 76 = .ok (.iinc 3 1, 3) := by decide +kernel
theorem dX13_order_79 : decode cX13_order 79 = .ok (.iload 4, 2) := by decide +kernel
theorem dX13_order_81 : decode cX13_order 81 = .ok (.iload_n 2, 1) := by decide +kernel
theorem dX13_order_82 : decode cX13_order 82 = .ok (.imul, 1) := by decide +kernel
theorem dX13_order_83 : decode cX13_order 83 = .ok (.istore 4, 2) := by decide +kernel
theorem dX13_order_85 : decode cX13_order 85 = .ok (.iinc 5 1, 3) := by decide +kernel
theorem dX13_order_88 : decode cX13_order 88 = .ok (.goto (-47), 3) := by decide +kernel
theorem dX13_order_91 : decode cX13_order 91 = .ok (.iconst (-1), 1) := by decide +kernel
theorem dX13_order_92 : decode cX13_order 92 = .ok (.istore 5, 2) := by decide +kernel
theorem dX13_order_94 : decode cX13_order 94 = .ok (.iconst 0, 1) := by decide +kernel
theorem dX13_order_95 : decode cX13_order 95 = .ok (.istore 6, 2) := by decide +kernel
theorem dX13_order_97 : decode cX13_order 97 = .ok (.iload 6, 2) := by decide +kernel
theorem dX13_order_99 : decode cX13_order 99 = .ok (.iload 4, 2) := by decide +kernel
theorem dX13_order_101 : decode cX13_order 101 = .ok (.if_icmp .ge 124, 3) := by decide +kernel
theorem dX13_order_104 : decode cX13_order 104 = .ok (.aload_n 0, 1) := by decide +kernel
theorem dX13_order_105 : decode cX13_order 105 = .ok (.iload 6, 2) := by decide +kernel
theorem dX13_order_107 : decode cX13_order 107 = .ok (.iload_n 2, 1) := by decide +kernel
theorem dX13_order_108 : decode cX13_order 108 = .ok (.invokevirtual 607, 3) := by decide +kernel
theorem dX13_order_111 : decode cX13_order 111 = .ok (.ifCond .ne 6, 3) := by decide +kernel
theorem dX13_order_114 : decode cX13_order 114 = .ok (.goto 105, 3) := by decide +kernel
theorem dX13_order_117 : decode cX13_order 117 = .ok (.aload_n 0, 1) := by decide +kernel
theorem dX13_order_118 : decode cX13_order 118 = .ok (.iconst 1, 1) := by decide +kernel
theorem dX13_order_119 : decode cX13_order 119 = .ok (.iconst 0, 1) := by decide +kernel
theorem dX13_order_120 : decode cX13_order 120 = .ok (.invokevirtual 461, 3) := by decide +kernel
theorem dX13_order_123 : decode cX13_order 123 = .ok (.iconst 0, 1) := by decide +kernel
theorem dX13_order_124 : decode cX13_order 124 = .ok (.istore 7, 2) := by decide +kernel
theorem dX13_order_126 : decode cX13_order 126 = .ok (.iconst 0, 1) := by decide +kernel
theorem dX13_order_127 : decode cX13_order 127 = .ok (.istore 8, 2) := by decide +kernel
theorem dX13_order_129 : decode cX13_order 129 = .ok (.iload 8, 2) := by decide +kernel
theorem dX13_order_131 : decode cX13_order 131 = .ok (.iload_n 2, 1) := by decide +kernel
theorem dX13_order_132 : decode cX13_order 132 = .ok (.if_icmp .ge 39, 3) := by decide +kernel
theorem dX13_order_135 : decode cX13_order 135 = .ok (.iload 7, 2) := by decide +kernel
theorem dX13_order_137 : decode cX13_order 137 = .ok (.aload_n 0, 1) := by decide +kernel
theorem dX13_order_138 : decode cX13_order 138 = .ok (.iconst 1, 1) := by decide +kernel
theorem dX13_order_139 : decode cX13_order 139 = .ok (.aload_n 0, 1) := by decide +kernel
theorem dX13_order_140 : decode cX13_order 140 = .ok (.getfield 210, 3) := by decide +kernel
theorem dX13_order_143 : decode cX13_order 143 = .ok (.aload_n 0, 1) := by decide +kernel
theorem dX13_order_144 : decode cX13_order 144 = .ok (.getfield 213, 3) := by decide +kernel
theorem dX13_order_147 : decode cX13_order 147 = .ok (.iload 8, 2) := by decide +kernel
theorem dX13_order_149 : decode cX13_order 149 = .ok (.iaload, 1) := by decide +kernel
theorem dX13_order_150 : decode cX13_order 150 = .ok (.iaload, 1) := by decide +kernel
theorem dX13_order_151 : decode cX13_order 151 = .ok (.invokevirtual 574, 3) := by decide +kernel
theorem dX13_order_154 : decode cX13_order 154 = .ok (.ifCond .eq 7, 3) := by decide +kernel
theorem dX13_order_157 : decode cX13_order 157 = .ok (.iconst 1, 1) := by decide +kernel
theorem dX13_order_158 : decode cX13_order 158 = .ok (.goto 4, 3) := by decide +kernel
theorem dX13_order_161 : decode cX13_order 161 = .ok (.iconst 0, 1) := by decide +kernel
theorem dX13_order_162 : decode cX13_order 162 = .ok (.iadd, 1) := by decide +kernel
theorem dX13_order_163 : decode cX13_order 163 = .ok (.istore 7, 2) := by decide +kernel
theorem dX13_order_165 : decode cX13_order 165 = .ok (.iinc 8 1, 3) := by decide +kernel
theorem dX13_order_168 : decode cX13_order 168 = .ok (.goto (-39), 3) := by decide +kernel
theorem dX13_order_171 : decode cX13_order 171 = .ok (.iload 7, 2) := by decide +kernel
theorem dX13_order_173 : decode cX13_order 173 = .ok (.iload 5, 2) := by decide +kernel
theorem dX13_order_175 : decode cX13_order 175 = .ok (.if_icmp .gt 6, 3) := by decide +kernel
theorem dX13_order_178 : decode cX13_order 178 = .ok (.goto 41, 3) := by decide +kernel
theorem dX13_order_181 : decode cX13_order 181 = .ok (.iload 7, 2) := by decide +kernel
theorem dX13_order_183 : decode cX13_order 183 = .ok (.istore 5, 2) := by decide +kernel
theorem dX13_order_185 : decode cX13_order 185 = .ok (.iconst 0, 1) := by decide +kernel
theorem dX13_order_186 : decode cX13_order 186 = .ok (.istore 8, 2) := by decide +kernel
theorem dX13_order_188 : decode cX13_order 188 = .ok (.iload 8, 2) := by decide +kernel
theorem dX13_order_190 : decode cX13_order 190 = .ok (.iload_n 2, 1) := by decide +kernel
theorem dX13_order_191 : decode cX13_order 191 = .ok (.if_icmp .ge 28, 3) := by decide +kernel
theorem dX13_order_194 : decode cX13_order 194 = .ok (.aload_n 0, 1) := by decide +kernel
theorem dX13_order_195 : decode cX13_order 195 = .ok (.getfield 216, 3) := by decide +kernel
theorem dX13_order_198 : decode cX13_order 198 = .ok (.iload 8, 2) := by decide +kernel
theorem dX13_order_200 : decode cX13_order 200 = .ok (.aload_n 0, 1) := by decide +kernel
theorem dX13_order_201 : decode cX13_order 201 = .ok (.getfield 210, 3) := by decide +kernel
theorem dX13_order_204 : decode cX13_order 204 = .ok (.aload_n 0, 1) := by decide +kernel
theorem dX13_order_205 : decode cX13_order 205 = .ok (.getfield 213, 3) := by decide +kernel
theorem dX13_order_208 : decode cX13_order 208 = .ok (.iload 8, 2) := by decide +kernel
theorem dX13_order_210 : decode cX13_order 210 = .ok (.iaload, 1) := by decide +kernel
theorem dX13_order_211 : decode cX13_order 211 = .ok (.iaload, 1) := by decide +kernel
theorem dX13_order_212 : decode cX13_order 212 = .ok (.iastore, 1) := by decide +kernel
theorem dX13_order_213 : decode cX13_order 213 = .ok (.iinc 8 1, 3) := by decide +kernel
theorem dX13_order_216 : decode cX13_order 216 = .ok (.goto (-28), 3) := by decide +kernel
theorem dX13_order_219 : decode cX13_order 219 = .ok (.iinc 6 1, 3) := by decide +kernel
theorem dX13_order_222 : decode cX13_order 222 = .ok (.goto (-125), 3) := by decide +kernel
theorem dX13_order_225 : decode cX13_order 225 = .ok (.iload_n 1, 1) := by decide +kernel
theorem dX13_order_226 : decode cX13_order 226 = .ok (.iconst (-1), 1) := by decide +kernel
theorem dX13_order_227 : decode cX13_order 227 = .ok (.if_icmp .ne 8, 3) := by decide +kernel
theorem dX13_order_230 : decode cX13_order 230 = .ok (.iload 5, 2) := by decide +kernel
theorem dX13_order_232 : decode cX13_order 232 = .ok (.goto 9, 3) := by decide +kernel
theorem dX13_order_235 : decode cX13_order 235 = .ok (.aload_n 0, 1) := by decide +kernel
theorem dX13_order_236 : decode cX13_order 236 = .ok (.getfield 216, 3) := by decide +kernel
theorem dX13_order_239 : decode cX13_order 239 = .ok (.iload_n 1, 1) := by decide +kernel
theorem dX13_order_240 : decode cX13_order 240 = .ok (.iaload, 1) := by decide +kernel
theorem dX13_order_241 : decode cX13_order 241 = .ok (.ireturn, 1) := by decide +kernel
theorem dX13_reconcile_0 : decode cX13_reconcile 0 = .ok (.aload_n 0, 1) := by decide +kernel
theorem dX13_reconcile_1 : decode cX13_reconcile 1 = .ok (.iload_n 1, 1) := by decide +kernel
theorem dX13_reconcile_2 : decode cX13_reconcile 2 = .ok (.iconst 1, 1) := by decide +kernel
theorem dX13_reconcile_3 : decode cX13_reconcile 3 = .ok (.bipush 40, 2) := by decide +kernel
theorem dX13_reconcile_5 : decode cX13_reconcile 5 = .ok (.invokevirtual 597, 3) := by decide +kernel
theorem dX13_reconcile_8 : decode cX13_reconcile 8 = .ok (.ifCond .eq 12, 3) := by decide +kernel
theorem dX13_reconcile_11 : decode cX13_reconcile 11 = .ok (.iload_n 2, 1) := by decide +kernel
theorem dX13_reconcile_12 : decode cX13_reconcile 12 = .ok (.iconst 0, 1) := by decide +kernel
theorem dX13_reconcile_13 : decode cX13_reconcile 13 = .ok (.iconst 1, 1) := by decide +kernel
theorem dX13_reconcile_14 : decode cX13_reconcile 14 = .ok (.invokestatic 347, 3) := by decide +kernel
theorem dX13_reconcile_17 : decode cX13_reconcile 17 = .ok (.ifCond .ne 5, 3) := by decide +kernel
theorem dX13_reconcile_20 : decode cX13_reconcile 20 = .ok (.iconst (-1), 1) := by decide +kernel
theorem dX13_reconcile_21 : decode cX13_reconcile 21 = .ok (.ireturn, 1) := by decide +kernel
theorem dX13_reconcile_22 : decode cX13_reconcile 22 = .ok (.aload_n 0, 1) := by decide +kernel
theorem dX13_reconcile_23 : decode cX13_reconcile 23 = .ok (.iconst 1, 1) := by decide +kernel
theorem dX13_reconcile_24 : decode cX13_reconcile 24 = .ok (.iconst 0, 1) := by decide +kernel
theorem dX13_reconcile_25 : decode cX13_reconcile 25 = .ok (.invokevirtual 461, 3) := by decide +kernel
theorem dX13_reconcile_28 : decode cX13_reconcile 28 = .ok (.iconst 0, 1) := by decide +kernel
theorem dX13_reconcile_29 : decode cX13_reconcile 29 = .ok (.istore_n 3, 1) := by decide +kernel
theorem dX13_reconcile_30 : decode cX13_reconcile 30 = .ok (.iload_n 3, 1) := by decide +kernel
theorem dX13_reconcile_31 : decode cX13_reconcile 31 = .ok (.iload_n 1, 1) := by decide +kernel
theorem dX13_reconcile_32 : decode cX13_reconcile 32 = .ok (.if_icmp .ge 15, 3) := by decide +kernel
theorem dX13_reconcile_35 : decode cX13_reconcile 35 = .ok (.aload_n 0, 1) := by decide +kernel
theorem dX13_reconcile_36 : decode cX13_reconcile 36 = .ok (.iconst 1, 1) := by decide +kernel
theorem dX13_reconcile_37 : decode cX13_reconcile 37 = .ok (.iconst 0, 1) := by decide +kernel
theorem dX13_reconcile_38 : decode cX13_reconcile 38 = .ok (.invokevirtual 600, 3) := by decide +kernel
theorem dX13_reconcile_41 : decode cX13_reconcile 41 = .ok (.iinc 3 1, 3) := by decide +kernel
theorem dX13_reconcile_44 : decode cX13_reconcile 44 = .ok (.goto (-14), 3) := by decide +kernel
theorem dX13_reconcile_47 : decode cX13_reconcile 47 = .ok (.aload_n 0, 1) := by decide +kernel
theorem dX13_reconcile_48 : decode cX13_reconcile 48 = .ok (.iconst 1, 1) := by decide +kernel
theorem dX13_reconcile_49 : decode cX13_reconcile 49 = .ok (.invokevirtual 580, 3) := by decide +kernel
theorem dX13_reconcile_52 : decode cX13_reconcile 52 = .ok (.invokestatic 568, 3) := by decide +kernel
theorem dX13_reconcile_55 : decode cX13_reconcile 55 = .ok (.istore_n 3, 1) := by decide +kernel
theorem dX13_reconcile_56 : decode cX13_reconcile 56 = .ok (.iload_n 3, 1) := by decide +kernel
theorem dX13_reconcile_57 : decode cX13_reconcile 57 = .ok (.istore 4, 2) := by decide +kernel
theorem dX13_reconcile_59 : decode cX13_reconcile 59 = .ok (.iconst (-1), 1) := by decide +kernel
theorem dX13_reconcile_60 : decode cX13_reconcile 60 = .ok (.istore 5, 2) := by decide +kernel
theorem dX13_reconcile_62 : decode cX13_reconcile 62 = .ok (.iconst 0, 1) := by decide +kernel
theorem dX13_reconcile_63 : decode cX13_reconcile 63 = .ok (.istore 6, 2) := by decide +kernel
theorem dX13_reconcile_65 : decode cX13_reconcile 65 = .ok (.iload 6, 2) := by decide +kernel
theorem dX13_reconcile_67 : decode cX13_reconcile 67 = .ok (.aload_n 0, 1) := by decide +kernel
theorem dX13_reconcile_68 : decode cX13_reconcile 68 = .ok (.getfield 75, 3) := by decide +kernel
theorem dX13_reconcile_71 : decode cX13_reconcile 71 = .ok (.aload_n 0, 1) := by decide +kernel
theorem dX13_reconcile_72 : decode cX13_reconcile 72 = .ok (.getfield 51, 3) := by decide +kernel
theorem dX13_reconcile_75 : decode cX13_reconcile 75 = .ok (.iaload, 1) := by decide +kernel
theorem dX13_reconcile_76 : decode cX13_reconcile 76 = .ok (.if_icmp .ge 96, 3) := by decide +kernel
theorem dX13_reconcile_79 : decode cX13_reconcile 79 = .ok (.aload_n 0, 1) := by decide +kernel
theorem dX13_reconcile_80 : decode cX13_reconcile 80 = .ok (.getfield 165, 3) := by decide +kernel
theorem dX13_reconcile_83 : decode cX13_reconcile 83 = .ok (.iconst 0, 1) := by decide +kernel
theorem dX13_reconcile_84 : decode cX13_reconcile 84 = .ok (.iaload, 1) := by decide +kernel
theorem dX13_reconcile_85 : decode cX13_reconcile 85 = .ok (.iload 6, 2) := by decide +kernel
theorem dX13_reconcile_87 : decode cX13_reconcile 87 = .ok (.invokestatic 389, 3) := by decide +kernel
theorem dX13_reconcile_90 : decode cX13_reconcile 90 = .ok (.ifCond .eq 6, 3) := by decide +kernel
theorem dX13_reconcile_93 : decode cX13_reconcile 93 = .ok (.goto 73, 3) := by decide +kernel
theorem dX13_reconcile_96 : decode cX13_reconcile 96 = .ok (.aload_n 0, 1) := by decide +kernel
theorem dX13_reconcile_97 : decode cX13_reconcile 97 = .ok (.iconst 1, 1) := by decide +kernel
theorem dX13_reconcile_98 : decode cX13_reconcile 98 = .ok (.iconst 0, 1) := by decide +kernel
theorem dX13_reconcile_99 : decode cX13_reconcile 99 = .ok (.invokevirtual 461, 3) := by decide +kernel
theorem dX13_reconcile_102 : decode cX13_reconcile 102 = .ok (.aload_n 0, 1) := by decide +kernel
theorem dX13_reconcile_103 : decode cX13_reconcile 103 = .ok (.getfield 165, 3) := by decide +kernel
theorem dX13_reconcile_106 : decode cX13_reconcile 106 = .ok (.iconst 1, 1) := by decide +kernel
theorem dX13_reconcile_107 : decode cX13_reconcile 107 = .ok (.dup2, 1) := by decide +kernel
theorem dX13_reconcile_108 : decode cX13_reconcile 108 = .ok (.iaload, 1) := by decide +kernel
theorem dX13_reconcile_109 : decode cX13_reconcile 109 = .ok (.iconst 1, 1) := by decide +kernel
theorem dX13_reconcile_110 : decode cX13_reconcile 110 = .ok (.iload 6, 2) := by decide +kernel
theorem dX13_reconcile_112 : decode cX13_reconcile 112 = .ok (.ishl, 1) := by decide +kernel
theorem dX13_reconcile_113 : decode cX13_reconcile 113 = .ok (.ior, 1) := by decide +kernel
theorem dX13_reconcile_114 : decode cX13_reconcile 114 = .ok (.iastore, 1) := by decide +kernel
theorem dX13_reconcile_115 : decode cX13_reconcile 115 = .ok (.iconst 0, 1) := by decide +kernel
theorem dX13_reconcile_116 : decode cX13_reconcile 116 = .ok (.istore 7, 2) := by decide +kernel
theorem dX13_reconcile_118 : decode cX13_reconcile 118 = .ok (.iload 7, 2) := by decide +kernel
theorem dX13_reconcile_120 : decode cX13_reconcile 120 = .ok (.iload_n 1, 1) := by decide +kernel
theorem dX13_reconcile_121 : decode cX13_reconcile 121 = .ok (.if_icmp .ge 15, 3) := by decide +kernel
theorem dX13_reconcile_124 : decode cX13_reconcile 124 = .ok (.aload_n 0, 1) := by decide +kernel
theorem dX13_reconcile_125 : decode cX13_reconcile 125 = .ok (.iconst 1, 1) := by decide +kernel
theorem dX13_reconcile_126 : decode cX13_reconcile 126 = .ok (.iconst 0, 1) := by decide +kernel
theorem dX13_reconcile_127 : decode cX13_reconcile 127 = .ok (.invokevirtual 600, 3) := by decide +kernel
theorem dX13_reconcile_130 : decode cX13_reconcile 130 = .ok (.iinc 7 1, 3) := by decide +kernel
theorem dX13_reconcile_133 : decode cX13_reconcile 133 = .ok (.goto (-15), 3) := by decide +kernel
theorem dX13_reconcile_136 : decode cX13_reconcile 136 = .ok (.aload_n 0, 1) := by decide +kernel
theorem dX13_reconcile_137 : decode cX13_reconcile 137 = .ok (.iconst 1, 1) := by decide +kernel
theorem dX13_reconcile_138 : decode cX13_reconcile 138 = .ok (.invokevirtual 580, 3) := by decide +kernel
theorem dX13_reconcile_141 : decode cX13_reconcile 141 = .ok (.invokestatic 568, 3) := by decide +kernel
theorem dX13_reconcile_144 : decode cX13_reconcile 144 = .ok (.iload 4, 2) := by decide +kernel
theorem dX13_reconcile_146 : decode cX13_reconcile 146 = .ok (.if_icmp .gt 6, 3) := by decide +kernel
theorem dX13_reconcile_149 : decode cX13_reconcile 149 = .ok (.goto 17, 3) := by decide +kernel
theorem dX13_reconcile_152 : decode cX13_reconcile 152 = .ok (.aload_n 0, 1) := by decide +kernel
theorem dX13_reconcile_153 : decode cX13_reconcile 153 = .ok (.iconst 1, 1) := by decide +kernel
theorem dX13_reconcile_154 : decode cX13_reconcile 154 = .ok (.invokevirtual 580, 3) := by decide +kernel
theorem dX13_reconcile_157 : decode cX13_reconcile 157 = .ok (.invokestatic 568, 3) := by decide +kernel
theorem dX13_reconcile_160 : decode cX13_reconcile 160 = .ok (.istore 4, 2) := by decide +kernel
theorem dX13_reconcile_162 : decode cX13_reconcile 162 = .ok (.iload 6, 2) := by decide +kernel
theorem dX13_reconcile_164 : decode cX13_reconcile 164 = .ok (.istore 5, 2) := by decide +kernel
theorem dX13_reconcile_166 : decode cX13_reconcile 166 = .ok (.iinc 6 1, 3) := by decide +kernel
theorem dX13_reconcile_169 : decode cX13_reconcile 169 = .ok (.goto (-104), 3) := by decide +kernel
theorem dX13_reconcile_172 : decode cX13_reconcile 172 = .ok (.iload 5, 2) := by decide +kernel
theorem dX13_reconcile_174 : decode cX13_reconcile 174 = .ok (.iconst (-1), 1) := by decide +kernel
theorem dX13_reconcile_175 : decode cX13_reconcile 175 = .ok (.if_icmp .ne 7, 3) := by decide +kernel
theorem dX13_reconcile_178 : decode cX13_reconcile 178 = .ok (.iconst (-1), 1) := by decide +kernel
theorem dX13_reconcile_179 : decode cX13_reconcile 179 = .ok (.goto 16, 3) := by decide +kernel
theorem dX13_reconcile_182 : decode cX13_reconcile 182 = .ok (.iload_n 2, 1) := by decide +kernel
theorem dX13_reconcile_183 : decode cX13_reconcile 183 = .ok (.ifCond .ne 8, 3) := by decide +kernel
theorem dX13_reconcile_186 : decode cX13_reconcile 186 = .ok (.iload 5, 2) := by decide +kernel
theorem dX13_reconcile_188 : decode cX13_reconcile 188 = .ok (.goto 7, 3) := by decide +kernel
theorem dX13_reconcile_191 : decode cX13_reconcile 191 = .ok (.iload 4, 2) := by decide +kernel
theorem dX13_reconcile_193 : decode cX13_reconcile 193 = .ok (.iload_n 3, 1) := by decide +kernel
theorem dX13_reconcile_194 : decode cX13_reconcile 194 = .ok (.isub, 1) := by decide +kernel
theorem dX13_reconcile_195 : decode cX13_reconcile 195 = .ok (.ireturn, 1) := by decide +kernel
theorem dX13_raises_0 : decode cX13_raises 0 = .ok (.aload_n 0, 1) := by decide +kernel
theorem dX13_raises_1 : decode cX13_raises 1 = .ok (.iconst 1, 1) := by decide +kernel
theorem dX13_raises_2 : decode cX13_raises 2 = .ok (.invokevirtual 501, 3) := by decide +kernel
theorem dX13_raises_5 : decode cX13_raises 5 = .ok (.aload_n 0, 1) := by decide +kernel
theorem dX13_raises_6 : decode cX13_raises 6 = .ok (.iconst 0, 1) := by decide +kernel
theorem dX13_raises_7 : decode cX13_raises 7 = .ok (.invokevirtual 501, 3) := by decide +kernel
theorem dX13_raises_10 : decode cX13_raises 10 = .ok (.isub, 1) := by decide +kernel
theorem dX13_raises_11 : decode cX13_raises 11 = .ok (.ireturn, 1) := by decide +kernel
theorem dX13_strongBy_0 : decode cX13_strongBy 0 = .ok (.iconst 0, 1) := by decide +kernel
theorem dX13_strongBy_1 : decode cX13_strongBy 1 = .ok (.istore_n 3, 1) := by decide +kernel
theorem dX13_strongBy_2 : decode cX13_strongBy 2 = .ok (.iconst 0, 1) := by decide +kernel
theorem dX13_strongBy_3 : decode cX13_strongBy 3 = .ok (.istore 4, 2) := by decide +kernel
theorem dX13_strongBy_5 : decode cX13_strongBy 5 = .ok (.iload 4, 2) := by decide +kernel
theorem dX13_strongBy_7 : decode cX13_strongBy 7 = .ok (.iload_n 2, 1) := by decide +kernel
theorem dX13_strongBy_8 : decode cX13_strongBy 8 = .ok (.if_icmp .ge 37, 3) := by decide +kernel
theorem dX13_strongBy_11 : decode cX13_strongBy 11 = .ok (.aload_n 0, 1) := by decide +kernel
theorem dX13_strongBy_12 : decode cX13_strongBy 12 = .ok (.iload_n 1, 1) := by decide +kernel
theorem dX13_strongBy_13 : decode cX13_strongBy 13 = .ok (.aload_n 0, 1) := by decide +kernel
theorem dX13_strongBy_14 : decode cX13_strongBy 14 = .ok (.iconst 0, 1) := by decide +kernel
theorem dX13_strongBy_15 : decode cX13_strongBy 15 = .ok (.invokevirtual 501, 3) := by decide +kernel
theorem dX13_strongBy_18 : decode cX13_strongBy 18 = .ok (.iload 4, 2) := by decide +kernel
theorem dX13_strongBy_20 : decode cX13_strongBy 20 = .ok (.iadd, 1) := by decide +kernel
theorem dX13_strongBy_21 : decode cX13_strongBy 21 = .ok (.iload_n 3, 1) := by decide +kernel
theorem dX13_strongBy_22 : decode cX13_strongBy 22 = .ok (.aload_n 0, 1) := by decide +kernel
theorem dX13_strongBy_23 : decode cX13_strongBy 23 = .ok (.getfield 222, 3) := by decide +kernel
theorem dX13_strongBy_26 : decode cX13_strongBy 26 = .ok (.aload_n 0, 1) := by decide +kernel
theorem dX13_strongBy_27 : decode cX13_strongBy 27 = .ok (.iconst 0, 1) := by decide +kernel
theorem dX13_strongBy_28 : decode cX13_strongBy 28 = .ok (.invokevirtual 501, 3) := by decide +kernel
theorem dX13_strongBy_31 : decode cX13_strongBy 31 = .ok (.iadd, 1) := by decide +kernel
theorem dX13_strongBy_32 : decode cX13_strongBy 32 = .ok (.iload 4, 2) := by decide +kernel
theorem dX13_strongBy_34 : decode cX13_strongBy 34 = .ok (.iadd, 1) := by decide +kernel
theorem dX13_strongBy_35 : decode cX13_strongBy 35 = .ok (.invokevirtual 559, 3) := by decide +kernel
theorem dX13_strongBy_38 : decode cX13_strongBy 38 = .ok (.istore_n 3, 1) := by decide +kernel
theorem dX13_strongBy_39 : decode cX13_strongBy 39 = .ok (.iinc 4 1, 3) := by decide +kernel
theorem dX13_strongBy_42 : decode cX13_strongBy 42 = .ok (.goto (-37), 3) := by decide +kernel
theorem dX13_strongBy_45 : decode cX13_strongBy 45 = .ok (.iload_n 3, 1) := by decide +kernel
theorem dX13_strongBy_46 : decode cX13_strongBy 46 = .ok (.ireturn, 1) := by decide +kernel
theorem dX13_isHomeBy_0 : decode cX13_isHomeBy 0 = .ok (.iconst 0, 1) := by decide +kernel
theorem dX13_isHomeBy_1 : decode cX13_isHomeBy 1 = .ok (.istore_n 2, 1) := by decide +kernel
theorem dX13_isHomeBy_2 : decode cX13_isHomeBy 2 = .ok (.iload_n 2, 1) := by decide +kernel
theorem dX13_isHomeBy_3 : decode cX13_isHomeBy 3 = .ok (.aload_n 0, 1) := by decide +kernel
theorem dX13_isHomeBy_4 : decode cX13_isHomeBy 4 = .ok (.getfield 219, 3) := by decide +kernel
theorem dX13_isHomeBy_7 : decode cX13_isHomeBy 7 = .ok (.if_icmp .ge 31, 3) := by decide +kernel
theorem dX13_isHomeBy_10 : decode cX13_isHomeBy 10 = .ok (.aload_n 0, 1) := by decide +kernel
theorem dX13_isHomeBy_11 : decode cX13_isHomeBy 11 = .ok (.iload_n 1, 1) := by decide +kernel
theorem dX13_isHomeBy_12 : decode cX13_isHomeBy 12 = .ok (.aload_n 0, 1) := by decide +kernel
theorem dX13_isHomeBy_13 : decode cX13_isHomeBy 13 = .ok (.getfield 225, 3) := by decide +kernel
theorem dX13_isHomeBy_16 : decode cX13_isHomeBy 16 = .ok (.iload_n 2, 1) := by decide +kernel
theorem dX13_isHomeBy_17 : decode cX13_isHomeBy 17 = .ok (.iaload, 1) := by decide +kernel
theorem dX13_isHomeBy_18 : decode cX13_isHomeBy 18 = .ok (.invokevirtual 610, 3) := by decide +kernel
theorem dX13_isHomeBy_21 : decode cX13_isHomeBy 21 = .ok (.aload_n 0, 1) := by decide +kernel
theorem dX13_isHomeBy_22 : decode cX13_isHomeBy 22 = .ok (.getfield 228, 3) := by decide +kernel
theorem dX13_isHomeBy_25 : decode cX13_isHomeBy 25 = .ok (.iload_n 2, 1) := by decide +kernel
theorem dX13_isHomeBy_26 : decode cX13_isHomeBy 26 = .ok (.iaload, 1) := by decide +kernel
theorem dX13_isHomeBy_27 : decode cX13_isHomeBy 27 = .ok (.if_icmp .eq 5, 3) := by decide +kernel
theorem dX13_isHomeBy_30 : decode cX13_isHomeBy 30 = .ok (.iconst 0, 1) := by decide +kernel
theorem dX13_isHomeBy_31 : decode cX13_isHomeBy 31 = .ok (.ireturn, 1) := by decide +kernel
theorem dX13_isHomeBy_32 : decode cX13_isHomeBy 32 = .ok (.iinc 2 1, 3) := by decide +kernel
theorem dX13_isHomeBy_35 : decode cX13_isHomeBy 35 = .ok (.goto (-33), 3) := by decide +kernel
theorem dX13_isHomeBy_38 : decode cX13_isHomeBy 38 = .ok (.iconst 1, 1) := by decide +kernel
theorem dX13_isHomeBy_39 : decode cX13_isHomeBy 39 = .ok (.ireturn, 1) := by decide +kernel
theorem dX13_homesBy_0 : decode cX13_homesBy 0 = .ok (.iconst 0, 1) := by decide +kernel
theorem dX13_homesBy_1 : decode cX13_homesBy 1 = .ok (.istore_n 1, 1) := by decide +kernel
theorem dX13_homesBy_2 : decode cX13_homesBy 2 = .ok (.iconst 0, 1) := by decide +kernel
theorem dX13_homesBy_3 : decode cX13_homesBy 3 = .ok (.istore_n 2, 1) := by decide +kernel
theorem dX13_homesBy_4 : decode cX13_homesBy 4 = .ok (.iload_n 2, 1) := by decide +kernel
theorem dX13_homesBy_5 : decode cX13_homesBy 5 = .ok (.aload_n 0, 1) := by decide +kernel
theorem dX13_homesBy_6 : decode cX13_homesBy 6 = .ok (.getfield 54, 3) := by decide +kernel
theorem dX13_homesBy_9 : decode cX13_homesBy 9 = .ok (.aload_n 0, 1) := by decide +kernel
theorem dX13_homesBy_10 : decode cX13_homesBy 10 = .ok (.getfield 51, 3) := by decide +kernel
theorem dX13_homesBy_13 : decode cX13_homesBy 13 = .ok (.iaload, 1) := by decide +kernel
theorem dX13_homesBy_14 : decode cX13_homesBy 14 = .ok (.if_icmp .ge 27, 3) := by decide +kernel
theorem dX13_homesBy_17 : decode cX13_homesBy 17 = .ok (.iload_n 1, 1) := by decide +kernel
theorem dX13_homesBy_18 : decode cX13_homesBy 18 = .ok (.aload_n 0, 1) := by decide +kernel
theorem dX13_homesBy_19 : decode cX13_homesBy 19 = .ok (.iload_n 2, 1) := by decide +kernel
theorem dX13_homesBy_20 : decode cX13_homesBy 20 = .ok (.invokevirtual 613, 3) := by decide +kernel
theorem dX13_homesBy_23 : decode cX13_homesBy 23 = .ok (.ifCond .eq 9, 3) := by decide +kernel
theorem dX13_homesBy_26 : decode cX13_homesBy 26 = .ok (.iconst 1, 1) := by decide +kernel
theorem dX13_homesBy_27 : decode cX13_homesBy 27 = .ok (.iload_n 2, 1) := by decide +kernel
theorem dX13_homesBy_28 : decode cX13_homesBy 28 = .ok (.ishl, 1) := by decide +kernel
theorem dX13_homesBy_29 : decode cX13_homesBy 29 = .ok (.goto 4, 3) := by decide +kernel
theorem dX13_homesBy_32 : decode cX13_homesBy 32 = .ok (.iconst 0, 1) := by decide +kernel
theorem dX13_homesBy_33 : decode cX13_homesBy 33 = .ok (.ior, 1) := by decide +kernel
theorem dX13_homesBy_34 : decode cX13_homesBy 34 = .ok (.istore_n 1, 1) := by decide +kernel
theorem dX13_homesBy_35 : decode cX13_homesBy 35 = .ok (.iinc 2 1, 3) := by decide +kernel
theorem dX13_homesBy_38 : decode cX13_homesBy 38 = .ok (.goto (-34), 3) := by decide +kernel
theorem dX13_homesBy_41 : decode cX13_homesBy 41 = .ok (.iload_n 1, 1) := by decide +kernel
theorem dX13_homesBy_42 : decode cX13_homesBy 42 = .ok (.ireturn, 1) := by decide +kernel
theorem dX13_seams_0 : decode cX13_seams 0 = .ok (.aload_n 0, 1) := by decide +kernel
theorem dX13_seams_1 : decode cX13_seams 1 = .ok (.getfield 13, 3) := by decide +kernel
theorem dX13_seams_4 : decode cX13_seams 4 = .ok (.istore_n 2, 1) := by decide +kernel
theorem dX13_seams_5 : decode cX13_seams 5 = .ok (.aload_n 0, 1) := by decide +kernel
theorem dX13_seams_6 : decode cX13_seams 6 = .ok (.iconst 0, 1) := by decide +kernel
theorem dX13_seams_7 : decode cX13_seams 7 = .ok (.putfield 13, 3) := by decide +kernel
theorem dX13_seams_10 : decode cX13_seams 10 = .ok (.iload_n 2, 1) := by decide +kernel
theorem dX13_seams_11 : decode cX13_seams 11 = .ok (.ifCond .le 29, 3) := by decide +kernel
theorem dX13_seams_14 : decode cX13_seams 14 = .ok (.iload_n 2, 1) := by decide +kernel
theorem dX13_seams_15 : decode cX13_seams 15 = .ok (.iconst 3, 1) := by decide +kernel
theorem dX13_seams_16 : decode cX13_seams 16 = .ok (.irem, 1) := by decide +kernel
theorem dX13_seams_17 : decode cX13_seams 17 = .ok (.ifCond .ne 23, 3) := by decide +kernel
theorem dX13_seams_20 : decode cX13_seams 20 = .ok (.iload_n 2, 1) := by decide +kernel
theorem dX13_seams_21 : decode cX13_seams 21 = .ok (.bipush 48, 2) := by decide +kernel
theorem dX13_seams_23 : decode cX13_seams 23 = .ok (.if_icmp .gt 17, 3) := by decide +kernel
theorem dX13_seams_26 : decode cX13_seams 26 = .ok (.iload_n 1, 1) := by decide +kernel
theorem dX13_seams_27 : decode cX13_seams 27 = .ok (.iconst 0, 1) := by decide +kernel
theorem dX13_seams_28 : decode cX13_seams 28 = .ok (.bipush 99, 2) := by decide +kernel
theorem dX13_seams_30 : decode cX13_seams 30 = .ok (.invokestatic 347, 3) := by decide +kernel
theorem dX13_seams_33 : decode cX13_seams 33 = .ok (.ifCond .eq 7, 3) := by decide +kernel
theorem dX13_seams_36 : decode cX13_seams 36 = .ok (.iconst 1, 1) := by decide +kernel
theorem dX13_seams_37 : decode cX13_seams 37 = .ok (.goto 4, 3) := by decide +kernel
theorem dX13_seams_40 : decode cX13_seams 40 = .ok (.iconst 0, 1) := by decide +kernel
theorem dX13_seams_41 : decode cX13_seams 41 = .ok (.istore_n 3, 1) := by decide +kernel
theorem dX13_seams_42 : decode cX13_seams 42 = .ok (.iconst 0, 1) := by decide +kernel
theorem dX13_seams_43 : decode cX13_seams 43 = .ok (.istore 4, 2) := by decide +kernel
theorem dX13_seams_45 : decode cX13_seams 45 = .ok (.iload 4, 2) := by decide +kernel
theorem dX13_seams_47 : decode cX13_seams 47 = .ok (.iload_n 2, 1) := by decide +kernel
theorem dX13_seams_48 : decode cX13_seams 48 = .ok (.if_icmp .ge 29, 3) := by decide +kernel
theorem dX13_seams_51 : decode cX13_seams 51 = .ok (.iload_n 3, 1) := by decide +kernel
theorem dX13_seams_52 : decode cX13_seams 52 = .ok (.ifCond .eq 25, 3) := by decide +kernel
theorem dX13_seams_55 : decode cX13_seams 55 = .ok (.aload_n 0, 1) := by decide +kernel
theorem dX13_seams_56 : decode cX13_seams 56 = .ok (.getfield 7, 3) := by decide +kernel
theorem dX13_seams_59 : decode cX13_seams 59 = .ok (.iload 4, 2) := by decide +kernel
theorem dX13_seams_61 : decode cX13_seams 61 = .ok (.iaload, 1) := by decide +kernel
theorem dX13_seams_62 : decode cX13_seams 62 = .ok (.iconst 1, 1) := by decide +kernel
theorem dX13_seams_63 : decode cX13_seams 63 = .ok (.aload_n 0, 1) := by decide +kernel
theorem dX13_seams_64 : decode cX13_seams 64 = .ok (.invokevirtual 616, 3) := by decide +kernel
theorem dX13_seams_67 : decode cX13_seams 67 = .ok (.invokestatic 347, 3) := by decide +kernel
theorem dX13_seams_70 : decode cX13_seams 70 = .ok (.istore_n 3, 1) := by decide +kernel
theorem dX13_seams_71 : decode cX13_seams 71 = .ok (.iinc 4 3, 3) := by decide +kernel
theorem dX13_seams_74 : decode cX13_seams 74 = .ok (.goto (-29), 3) := by decide +kernel
theorem dX13_seams_77 : decode cX13_seams 77 = .ok (.iload_n 3, 1) := by decide +kernel
theorem dX13_seams_78 : decode cX13_seams 78 = .ok (.ifCond .ne 9, 3) := by decide +kernel
theorem dX13_seams_81 : decode cX13_seams 81 = .ok (.aload_n 0, 1) := by decide +kernel
theorem dX13_seams_82 : decode cX13_seams 82 = .ok (.iconst 5, 1) := by decide +kernel
theorem dX13_seams_83 : decode cX13_seams 83 = .ok (.invokevirtual 250, 3) := by decide +kernel
theorem dX13_seams_86 : decode cX13_seams 86 = .ok (.ireturn, 1) := by decide +kernel
theorem dX13_seams_87 : decode cX13_seams 87 = .ok (.aload_n 0, 1) := by decide +kernel
theorem dX13_seams_88 : decode cX13_seams 88 = .ok (.iload_n 2, 1) := by decide +kernel
theorem dX13_seams_89 : decode cX13_seams 89 = .ok (.iconst 3, 1) := by decide +kernel
theorem dX13_seams_90 : decode cX13_seams 90 = .ok (.idiv, 1) := by decide +kernel
theorem dX13_seams_91 : decode cX13_seams 91 = .ok (.putfield 219, 3) := by decide +kernel
theorem dX13_seams_94 : decode cX13_seams 94 = .ok (.aload_n 0, 1) := by decide +kernel
theorem dX13_seams_95 : decode cX13_seams 95 = .ok (.iload_n 1, 1) := by decide +kernel
theorem dX13_seams_96 : decode cX13_seams 96 = .ok (.putfield 222, 3) := by decide +kernel
theorem dX13_seams_99 : decode cX13_seams 99 = .ok (.iconst 0, 1) := by decide +kernel
theorem dX13_seams_100 : decode cX13_seams 100 = .ok (.istore 4, 2) := by decide +kernel
theorem dX13_seams_102 : decode cX13_seams 102 = .ok (.iload 4, 2) := by decide +kernel
theorem dX13_seams_104 : decode cX13_seams 104 = .ok (.aload_n 0, 1) := by decide +kernel
theorem dX13_seams_105 : decode cX13_seams 105 = .ok (.getfield 219, 3) := by decide +kernel
theorem dX13_seams_108 : decode cX13_seams 108 = .ok (.if_icmp .ge 42, 3) := by decide +kernel
theorem dX13_seams_111 : decode cX13_seams 111 = .ok (.aload_n 0, 1) := by decide +kernel
theorem dX13_seams_112 : decode cX13_seams 112 = .ok (.getfield 225, 3) := by decide +kernel
theorem dX13_seams_115 : decode cX13_seams 115 = .ok (.iload 4, 2) := by decide +kernel
theorem dX13_seams_117 : decode cX13_seams 117 = .ok (.aload_n 0, 1) := by decide +kernel
theorem dX13_seams_118 : decode cX13_seams 118 = .ok (.getfield 7, 3) := by decide +kernel
theorem dX13_seams_121 : decode cX13_seams 121 = .ok (.iconst 3, 1) := by decide +kernel
theorem dX13_seams_122 : decode cX13_seams 122 = .ok (.iload 4, 2) := by decide +kernel
theorem dX13_seams_124 : decode cX13_seams 124 = .ok (.imul, 1) := by decide +kernel
theorem dX13_seams_125 : decode cX13_seams 125 = .ok (.iaload, 1) := by decide +kernel
theorem dX13_seams_126 : decode cX13_seams 126 = .ok (.iastore, 1) := by decide +kernel
theorem dX13_seams_127 : decode cX13_seams 127 = .ok (.aload_n 0, 1) := by decide +kernel
theorem dX13_seams_128 : decode cX13_seams 128 = .ok (.getfield 228, 3) := by decide +kernel
theorem dX13_seams_131 : decode cX13_seams 131 = .ok (.iload 4, 2) := by decide +kernel
theorem dX13_seams_133 : decode cX13_seams 133 = .ok (.aload_n 0, 1) := by decide +kernel
theorem dX13_seams_134 : decode cX13_seams 134 = .ok (.iconst 3, 1) := by decide +kernel
theorem dX13_seams_135 : decode cX13_seams 135 = .ok (.iload 4, 2) := by decide +kernel
theorem dX13_seams_137 : decode cX13_seams 137 = .ok (.imul, 1) := by decide +kernel
theorem dX13_seams_138 : decode cX13_seams 138 = .ok (.iconst 1, 1) := by decide +kernel
theorem dX13_seams_139 : decode cX13_seams 139 = .ok (.iadd, 1) := by decide +kernel
theorem dX13_seams_140 : decode cX13_seams 140 = .ok (.invokevirtual 619, 3) := by decide +kernel
theorem dX13_seams_143 : decode cX13_seams 143 = .ok (.iastore, 1) := by decide +kernel
theorem dX13_seams_144 : decode cX13_seams 144 = .ok (.iinc 4 1, 3) := by decide +kernel
theorem dX13_seams_147 : decode cX13_seams 147 = .ok (.goto (-45), 3) := by decide +kernel
theorem dX13_seams_150 : decode cX13_seams 150 = .ok (.aload_n 0, 1) := by decide +kernel
theorem dX13_seams_151 : decode cX13_seams 151 = .ok (.invokevirtual 622, 3) := by decide +kernel
theorem dX13_seams_154 : decode cX13_seams 154 = .ok (.invokestatic 568, 3) := by decide +kernel
theorem dX13_seams_157 : decode cX13_seams 157 = .ok (.ireturn, 1) := by decide +kernel
theorem dX13_homes_0 : decode cX13_homes 0 = .ok (.aload_n 0, 1) := by decide +kernel
theorem dX13_homes_1 : decode cX13_homes 1 = .ok (.invokevirtual 622, 3) := by decide +kernel
theorem dX13_homes_4 : decode cX13_homes 4 = .ok (.istore_n 2, 1) := by decide +kernel
theorem dX13_homes_5 : decode cX13_homes 5 = .ok (.iload_n 1, 1) := by decide +kernel
theorem dX13_homes_6 : decode cX13_homes 6 = .ok (.ifCond .ne 5, 3) := by decide +kernel
theorem dX13_homes_9 : decode cX13_homes 9 = .ok (.iload_n 2, 1) := by decide +kernel
theorem dX13_homes_10 : decode cX13_homes 10 = .ok (.ireturn, 1) := by decide +kernel
theorem dX13_homes_11 : decode cX13_homes 11 = .ok (.iload_n 1, 1) := by decide +kernel
theorem dX13_homes_12 : decode cX13_homes 12 = .ok (.iconst 1, 1) := by decide +kernel
theorem dX13_homes_13 : decode cX13_homes 13 = .ok (.if_icmp .ne 7, 3) := by decide +kernel
theorem dX13_homes_16 : decode cX13_homes 16 = .ok (.iload_n 2, 1) := by decide +kernel
theorem dX13_homes_17 : decode cX13_homes 17 = .ok (.ifCond .ne 5, 3) := by decide +kernel
theorem dX13_homes_20 : decode cX13_homes 20 = .ok (.iconst (-1), 1) := by decide +kernel
theorem dX13_homes_21 : decode cX13_homes 21 = .ok (.ireturn, 1) := by decide +kernel
theorem dX13_homes_22 : decode cX13_homes 22 = .ok (.iconst (-1), 1) := by decide +kernel
theorem dX13_homes_23 : decode cX13_homes 23 = .ok (.istore_n 3, 1) := by decide +kernel
theorem dX13_homes_24 : decode cX13_homes 24 = .ok (.ldc_w 625, 3) := by decide +kernel
theorem dX13_homes_27 : decode cX13_homes 27 = .ok (.istore 4, 2) := by decide +kernel
theorem dX13_homes_29 : decode cX13_homes 29 = .ok (.iconst 1, 1) := by decide +kernel
theorem dX13_homes_30 : decode cX13_homes 30 = .ok (.istore 5, 2) := by decide +kernel
theorem dX13_homes_32 : decode cX13_homes 32 = .ok (.iload 5, 2) := by decide +kernel
theorem dX13_homes_34 : decode cX13_homes 34 = .ok (.aload_n 0, 1) := by decide +kernel
theorem dX13_homes_35 : decode cX13_homes 35 = .ok (.invokevirtual 616, 3) := by decide +kernel
theorem dX13_homes_38 : decode cX13_homes 38 = .ok (.if_icmp .gt 177, 3) := by decide +kernel
theorem dX13_homes_41 : decode cX13_homes 41 = .ok (.iconst 0, 1) := by decide +kernel
theorem dX13_homes_42 : decode cX13_homes 42 = .ok (.istore 6, 2) := by decide +kernel
theorem dX13_homes_44 : decode cX13_homes 44 = .ok (.iload 6, 2) := by decide +kernel
theorem dX13_homes_46 : decode cX13_homes 46 = .ok (.aload_n 0, 1) := by decide +kernel
theorem dX13_homes_47 : decode cX13_homes 47 = .ok (.getfield 54, 3) := by decide +kernel
theorem dX13_homes_50 : decode cX13_homes 50 = .ok (.aload_n 0, 1) := by decide +kernel
theorem dX13_homes_51 : decode cX13_homes 51 = .ok (.getfield 51, 3) := by decide +kernel
theorem dX13_homes_54 : decode cX13_homes 54 = .ok (.iaload, 1) := by decide +kernel
theorem dX13_homes_55 : decode cX13_homes 55 = .ok (.if_icmp .ge 24, 3) := by decide +kernel
theorem dX13_homes_58 : decode cX13_homes 58 = .ok (.aload_n 0, 1) := by decide +kernel
theorem dX13_homes_59 : decode cX13_homes 59 = .ok (.getfield 231, 3) := by decide +kernel
theorem dX13_homes_62 : decode cX13_homes 62 = .ok (.iload 6, 2) := by decide +kernel
theorem dX13_homes_64 : decode cX13_homes 64 = .ok (.aload_n 0, 1) := by decide +kernel
theorem dX13_homes_65 : decode cX13_homes 65 = .ok (.iload 6, 2) := by decide +kernel
theorem dX13_homes_67 : decode cX13_homes 67 = .ok (.iload 5, 2) := by decide +kernel
theorem dX13_homes_69 : decode cX13_homes 69 = .ok (.invokevirtual 610, 3) := by decide +kernel
theorem dX13_homes_72 : decode cX13_homes 72 = .ok (.iastore, 1) := by decide +kernel
theorem dX13_homes_73 : decode cX13_homes 73 = .ok (.iinc 6 1, 3) := by decide +kernel
theorem dX13_homes_76 : decode cX13_homes 76 = .ok (.goto (-32), 3) := by decide +kernel
theorem dX13_homes_79 : decode cX13_homes 79 = .ok (.iconst 0, 1) := by decide +kernel
theorem dX13_homes_80 : decode cX13_homes 80 = .ok (.istore 6, 2) := by decide +kernel
theorem dX13_homes_82 : decode cX13_homes 82 = .ok (.iconst 0, 1) := by decide +kernel
theorem dX13_homes_83 : decode cX13_homes 83 = .ok (.istore 7, 2) := by decide +kernel
theorem dX13_homes_85 : decode cX13_homes 85 = .ok (.iload 7, 2) := by decide +kernel
theorem dX13_homes_87 : decode cX13_homes 87 = .ok (.aload_n 0, 1) := by decide +kernel
theorem dX13_homes_88 : decode cX13_homes 88 = .ok (.getfield 54, 3) := by decide +kernel
theorem dX13_homes_91 : decode cX13_homes 91 = .ok (.aload_n 0, 1) := by decide +kernel
theorem dX13_homes_92 : decode cX13_homes 92 = .ok (.getfield 51, 3) := by decide +kernel
theorem dX13_homes_95 : decode cX13_homes 95 = .ok (.iaload, 1) := by decide +kernel
theorem dX13_homes_96 : decode cX13_homes 96 = .ok (.if_icmp .ge 96, 3) := by decide +kernel
theorem dX13_homes_99 : decode cX13_homes 99 = .ok (.iconst 0, 1) := by decide +kernel
theorem dX13_homes_100 : decode cX13_homes 100 = .ok (.istore 8, 2) := by decide +kernel
theorem dX13_homes_102 : decode cX13_homes 102 = .ok (.iconst 0, 1) := by decide +kernel
theorem dX13_homes_103 : decode cX13_homes 103 = .ok (.istore 9, 2) := by decide +kernel
theorem dX13_homes_105 : decode cX13_homes 105 = .ok (.iload 9, 2) := by decide +kernel
theorem dX13_homes_107 : decode cX13_homes 107 = .ok (.aload_n 0, 1) := by decide +kernel
theorem dX13_homes_108 : decode cX13_homes 108 = .ok (.getfield 54, 3) := by decide +kernel
theorem dX13_homes_111 : decode cX13_homes 111 = .ok (.aload_n 0, 1) := by decide +kernel
theorem dX13_homes_112 : decode cX13_homes 112 = .ok (.getfield 51, 3) := by decide +kernel
theorem dX13_homes_115 : decode cX13_homes 115 = .ok (.iaload, 1) := by decide +kernel
theorem dX13_homes_116 : decode cX13_homes 116 = .ok (.if_icmp .ge 54, 3) := by decide +kernel
theorem dX13_homes_119 : decode cX13_homes 119 = .ok (.iload 8, 2) := by decide +kernel
theorem dX13_homes_121 : decode cX13_homes 121 = .ok (.iload_n 2, 1) := by decide +kernel
theorem dX13_homes_122 : decode cX13_homes 122 = .ok (.iload 7, 2) := by decide +kernel
theorem dX13_homes_124 : decode cX13_homes 124 = .ok (.invokestatic 389, 3) := by decide +kernel
theorem dX13_homes_127 : decode cX13_homes 127 = .ok (.ifCond .eq 33, 3) := by decide +kernel
theorem dX13_homes_130 : decode cX13_homes 130 = .ok (.iload_n 2, 1) := by decide +kernel
theorem dX13_homes_131 : decode cX13_homes 131 = .ok (.iload 9, 2) := by decide +kernel
theorem dX13_homes_133 : decode cX13_homes 133 = .ok (.invokestatic 389, 3) := by decide +kernel
theorem dX13_homes_136 : decode cX13_homes 136 = .ok (.ifCond .eq 24, 3) := by decide +kernel
theorem dX13_homes_139 : decode cX13_homes 139 = .ok (.aload_n 0, 1) := by decide +kernel
theorem dX13_homes_140 : decode cX13_homes 140 = .ok (.getfield 231, 3) := by decide +kernel
theorem dX13_homes_143 : decode cX13_homes 143 = .ok (.iload 7, 2) := by decide +kernel
theorem dX13_homes_145 : decode cX13_homes 145 = .ok (.iaload, 1) := by decide +kernel
theorem dX13_homes_146 : decode cX13_homes 146 = .ok (.aload_n 0, 1) := by decide +kernel
theorem dX13_homes_147 : decode cX13_homes 147 = .ok (.getfield 231, 3) := by decide +kernel
theorem dX13_homes_150 : decode cX13_homes 150 = .ok (.iload 9, 2) := by decide +kernel
theorem dX13_homes_152 : decode cX13_homes 152 = .ok (.iaload, 1) := by decide +kernel
theorem dX13_homes_153 : decode cX13_homes 153 = .ok (.if_icmp .ne 7, 3) := by decide +kernel
theorem dX13_homes_156 : decode cX13_homes 156 = .ok (.iconst 1, 1) := by decide +kernel
theorem dX13_homes_157 : decode cX13_homes 157 = .ok (.goto 4, 3) := by decide +kernel
theorem dX13_homes_160 : decode cX13_homes 160 = .ok (.iconst 0, 1) := by decide +kernel
theorem dX13_homes_161 : decode cX13_homes 161 = .ok (.iadd, 1) := by decide +kernel
theorem dX13_homes_162 : decode cX13_homes 162 = .ok (.istore 8, 2) := by decide +kernel
theorem dX13_homes_164 : decode cX13_homes 164 = .ok (.iinc 9 1, 3) := by decide +kernel
theorem dX13_homes_167 : decode cX13_homes 167 = .ok (.goto (-62), 3) := by decide +kernel
theorem dX13_homes_170 : decode cX13_homes 170 = .ok (.iload 8, 2) := by decide +kernel
theorem dX13_homes_172 : decode cX13_homes 172 = .ok (.iload 6, 2) := by decide +kernel
theorem dX13_homes_174 : decode cX13_homes 174 = .ok (.if_icmp .le 8, 3) := by decide +kernel
theorem dX13_homes_177 : decode cX13_homes 177 = .ok (.iload 8, 2) := by decide +kernel
theorem dX13_homes_179 : decode cX13_homes 179 = .ok (.goto 5, 3) := by decide +kernel
theorem dX13_homes_182 : decode cX13_homes 182 = .ok (.iload 6, 2) := by decide +kernel
theorem dX13_homes_184 : decode cX13_homes 184 = .ok (.istore 6, 2) := by decide +kernel
theorem dX13_homes_186 : decode cX13_homes 186 = .ok (.iinc 7 1, 3) := by decide +kernel
theorem dX13_homes_189 : decode cX13_homes 189 = .ok (.goto (-104), 3) := by decide +kernel
theorem dX13_homes_192 : decode cX13_homes 192 = .ok (.iload 6, 2) := by decide +kernel
theorem dX13_homes_194 : decode cX13_homes 194 = .ok (.iload 4, 2) := by decide +kernel
theorem dX13_homes_196 : decode cX13_homes 196 = .ok (.if_icmp .lt 6, 3) := by decide +kernel
theorem dX13_homes_199 : decode cX13_homes 199 = .ok (.goto 10, 3) := by decide +kernel
theorem dX13_homes_202 : decode cX13_homes 202 = .ok (.iload 6, 2) := by decide +kernel
theorem dX13_homes_204 : decode cX13_homes 204 = .ok (.istore 4, 2) := by decide +kernel
theorem dX13_homes_206 : decode cX13_homes 206 = .ok (.iload 5, 2) := by decide +kernel
theorem dX13_homes_208 : decode cX13_homes 208 = .ok (.istore_n 3, 1) := by decide +kernel
theorem dX13_homes_209 : decode cX13_homes 209 = .ok (.iinc 5 1, 3) := by decide +kernel
theorem dX13_homes_212 : decode cX13_homes 212 = .ok (.goto (-180), 3) := by decide +kernel
theorem dX13_homes_215 : decode cX13_homes 215 = .ok (.iload_n 3, 1) := by decide +kernel
theorem dX13_homes_216 : decode cX13_homes 216 = .ok (.ireturn, 1) := by decide +kernel
theorem dX13_areLeftHolding_0 : decode cX13_areLeftHolding 0 = .ok (.aload_n 0, 1) := by decide +kernel
theorem dX13_areLeftHolding_1 : decode cX13_areLeftHolding 1 = .ok (.iconst 1, 1) := by decide +kernel
theorem dX13_areLeftHolding_2 : decode cX13_areLeftHolding 2 = .ok (.iconst 0, 1) := by decide +kernel
theorem dX13_areLeftHolding_3 : decode cX13_areLeftHolding 3 = .ok (.invokevirtual 461, 3) := by decide +kernel
theorem dX13_areLeftHolding_6 : decode cX13_areLeftHolding 6 = .ok (.iconst 0, 1) := by decide +kernel
theorem dX13_areLeftHolding_7 : decode cX13_areLeftHolding 7 = .ok (.istore_n 2, 1) := by decide +kernel
theorem dX13_areLeftHolding_8 : decode cX13_areLeftHolding 8 = .ok (.iload_n 2, 1) := by decide +kernel
theorem dX13_areLeftHolding_9 : decode cX13_areLeftHolding 9 = .ok (.aload_n 0, 1) := by decide +kernel
theorem dX13_areLeftHolding_10 : decode cX13_areLeftHolding 10 = .ok (.getfield 63, 3) := by decide +kernel
theorem dX13_areLeftHolding_13 : decode cX13_areLeftHolding 13 = .ok (.aload_n 0, 1) := by decide +kernel
theorem dX13_areLeftHolding_14 : decode cX13_areLeftHolding 14 = .ok (.getfield 51, 3) := by decide +kernel
theorem dX13_areLeftHolding_17 : decode cX13_areLeftHolding 17 = .ok (.iaload, 1) := by decide +kernel
theorem dX13_areLeftHolding_18 : decode cX13_areLeftHolding 18 = .ok (.if_icmp .ge 49, 3) := by decide +kernel
theorem dX13_areLeftHolding_21 : decode cX13_areLeftHolding 21 = .ok (.aload_n 0, 1) := by decide +kernel
theorem dX13_areLeftHolding_22 : decode cX13_areLeftHolding 22 = .ok (.iconst 0, 1) := by decide +kernel
theorem dX13_areLeftHolding_23 : decode cX13_areLeftHolding 23 = .ok (.iload_n 2, 1) := by decide +kernel
theorem dX13_areLeftHolding_24 : decode cX13_areLeftHolding 24 = .ok (.invokevirtual 507, 3) := by decide +kernel
theorem dX13_areLeftHolding_27 : decode cX13_areLeftHolding 27 = .ok (.iload_n 1, 1) := by decide +kernel
theorem dX13_areLeftHolding_28 : decode cX13_areLeftHolding 28 = .ok (.if_icmp .ne 33, 3) := by decide +kernel
theorem dX13_areLeftHolding_31 : decode cX13_areLeftHolding 31 = .ok (.aload_n 0, 1) := by decide +kernel
theorem dX13_areLeftHolding_32 : decode cX13_areLeftHolding 32 = .ok (.iconst 0, 1) := by decide +kernel
theorem dX13_areLeftHolding_33 : decode cX13_areLeftHolding 33 = .ok (.iload_n 2, 1) := by decide +kernel
theorem dX13_areLeftHolding_34 : decode cX13_areLeftHolding 34 = .ok (.invokevirtual 513, 3) := by decide +kernel
theorem dX13_areLeftHolding_37 : decode cX13_areLeftHolding 37 = .ok (.aload_n 0, 1) := by decide +kernel
theorem dX13_areLeftHolding_38 : decode cX13_areLeftHolding 38 = .ok (.getfield 237, 3) := by decide +kernel
theorem dX13_areLeftHolding_41 : decode cX13_areLeftHolding 41 = .ok (.aload_n 0, 1) := by decide +kernel
theorem dX13_areLeftHolding_42 : decode cX13_areLeftHolding 42 = .ok (.iconst 0, 1) := by decide +kernel
theorem dX13_areLeftHolding_43 : decode cX13_areLeftHolding 43 = .ok (.iload_n 2, 1) := by decide +kernel
theorem dX13_areLeftHolding_44 : decode cX13_areLeftHolding 44 = .ok (.invokevirtual 510, 3) := by decide +kernel
theorem dX13_areLeftHolding_47 : decode cX13_areLeftHolding 47 = .ok (.iaload, 1) := by decide +kernel
theorem dX13_areLeftHolding_48 : decode cX13_areLeftHolding 48 = .ok (.if_icmp .lt 13, 3) := by decide +kernel
theorem dX13_areLeftHolding_51 : decode cX13_areLeftHolding 51 = .ok (.aload_n 0, 1) := by decide +kernel
theorem dX13_areLeftHolding_52 : decode cX13_areLeftHolding 52 = .ok (.getfield 174, 3) := by decide +kernel
theorem dX13_areLeftHolding_55 : decode cX13_areLeftHolding 55 = .ok (.bipush 8, 2) := by decide +kernel
theorem dX13_areLeftHolding_57 : decode cX13_areLeftHolding 57 = .ok (.iload_n 2, 1) := by decide +kernel
theorem dX13_areLeftHolding_58 : decode cX13_areLeftHolding 58 = .ok (.iadd, 1) := by decide +kernel
theorem dX13_areLeftHolding_59 : decode cX13_areLeftHolding 59 = .ok (.iconst (-1), 1) := by decide +kernel
theorem dX13_areLeftHolding_60 : decode cX13_areLeftHolding 60 = .ok (.iastore, 1) := by decide +kernel
theorem dX13_areLeftHolding_61 : decode cX13_areLeftHolding 61 = .ok (.iinc 2 1, 3) := by decide +kernel
theorem dX13_areLeftHolding_64 : decode cX13_areLeftHolding 64 = .ok (.goto (-56), 3) := by decide +kernel
theorem dX13_areLeftHolding_67 : decode cX13_areLeftHolding 67 = .ok (.aload_n 0, 1) := by decide +kernel
theorem dX13_areLeftHolding_68 : decode cX13_areLeftHolding 68 = .ok (.iconst 1, 1) := by decide +kernel
theorem dX13_areLeftHolding_69 : decode cX13_areLeftHolding 69 = .ok (.iload_n 1, 1) := by decide +kernel
theorem dX13_areLeftHolding_70 : decode cX13_areLeftHolding 70 = .ok (.invokevirtual 550, 3) := by decide +kernel
theorem dX13_areLeftHolding_73 : decode cX13_areLeftHolding 73 = .ok (.ireturn, 1) := by decide +kernel
theorem dX13_pulling_0 : decode cX13_pulling 0 = .ok (.aload_n 0, 1) := by decide +kernel
theorem dX13_pulling_1 : decode cX13_pulling 1 = .ok (.iload_n 1, 1) := by decide +kernel
theorem dX13_pulling_2 : decode cX13_pulling 2 = .ok (.invokevirtual 594, 3) := by decide +kernel
theorem dX13_pulling_5 : decode cX13_pulling 5 = .ok (.ifCond .ne 5, 3) := by decide +kernel
theorem dX13_pulling_8 : decode cX13_pulling 8 = .ok (.iconst (-1), 1) := by decide +kernel
theorem dX13_pulling_9 : decode cX13_pulling 9 = .ok (.ireturn, 1) := by decide +kernel
theorem dX13_pulling_10 : decode cX13_pulling 10 = .ok (.iconst 0, 1) := by decide +kernel
theorem dX13_pulling_11 : decode cX13_pulling 11 = .ok (.istore_n 2, 1) := by decide +kernel
theorem dX13_pulling_12 : decode cX13_pulling 12 = .ok (.iconst 3, 1) := by decide +kernel
theorem dX13_pulling_13 : decode cX13_pulling 13 = .ok (.istore_n 3, 1) := by decide +kernel
theorem dX13_pulling_14 : decode cX13_pulling 14 = .ok (.iload_n 3, 1) := by decide +kernel
theorem dX13_pulling_15 : decode cX13_pulling 15 = .ok (.ifCond .lt 21, 3) := by decide +kernel
theorem dX13_pulling_18 : decode cX13_pulling 18 = .ok (.iconst 5, 1) := by decide +kernel
theorem dX13_pulling_19 : decode cX13_pulling 19 = .ok (.iload_n 2, 1) := by decide +kernel
theorem dX13_pulling_20 : decode cX13_pulling 20 = .ok (.imul, 1) := by decide +kernel
theorem dX13_pulling_21 : decode cX13_pulling 21 = .ok (.aload_n 0, 1) := by decide +kernel
theorem dX13_pulling_22 : decode cX13_pulling 22 = .ok (.iconst 0, 1) := by decide +kernel
theorem dX13_pulling_23 : decode cX13_pulling 23 = .ok (.iload_n 1, 1) := by decide +kernel
theorem dX13_pulling_24 : decode cX13_pulling 24 = .ok (.iload_n 3, 1) := by decide +kernel
theorem dX13_pulling_25 : decode cX13_pulling 25 = .ok (.invokevirtual 516, 3) := by decide +kernel
theorem dX13_pulling_28 : decode cX13_pulling 28 = .ok (.iadd, 1) := by decide +kernel
theorem dX13_pulling_29 : decode cX13_pulling 29 = .ok (.istore_n 2, 1) := by decide +kernel
theorem dX13_pulling_30 : decode cX13_pulling 30 = .ok (.iinc 3 (-1), 3) := by decide +kernel
theorem dX13_pulling_33 : decode cX13_pulling 33 = .ok (.goto (-19), 3) := by decide +kernel
theorem dX13_pulling_36 : decode cX13_pulling 36 = .ok (.iconst 0, 1) := by decide +kernel
theorem dX13_pulling_37 : decode cX13_pulling 37 = .ok (.istore_n 3, 1) := by decide +kernel
theorem dX13_pulling_38 : decode cX13_pulling 38 = .ok (.iload_n 3, 1) := by decide +kernel
theorem dX13_pulling_39 : decode cX13_pulling 39 = .ok (.iload_n 2, 1) := by decide +kernel
theorem dX13_pulling_40 : decode cX13_pulling 40 = .ok (.if_icmp .gt 140, 3) := by decide +kernel
theorem dX13_pulling_43 : decode cX13_pulling 43 = .ok (.iconst 1, 1) := by decide +kernel
theorem dX13_pulling_44 : decode cX13_pulling 44 = .ok (.istore 4, 2) := by decide +kernel
theorem dX13_pulling_46 : decode cX13_pulling 46 = .ok (.iconst 0, 1) := by decide +kernel
theorem dX13_pulling_47 : decode cX13_pulling 47 = .ok (.istore 5, 2) := by decide +kernel
theorem dX13_pulling_49 : decode cX13_pulling 49 = .ok (.iconst 0, 1) := by decide +kernel
theorem dX13_pulling_50 : decode cX13_pulling 50 = .ok (.istore 6, 2) := by decide +kernel
theorem dX13_pulling_52 : decode cX13_pulling 52 = .ok (.iload 6, 2) := by decide +kernel
theorem dX13_pulling_54 : decode cX13_pulling 54 = .ok (.iconst 4, 1) := by decide +kernel
theorem dX13_pulling_55 : decode cX13_pulling 55 = .ok (.if_icmp .ge 111, 3) := by decide +kernel
theorem dX13_pulling_58 : decode cX13_pulling 58 = .ok (.iload_n 3, 1) := by decide +kernel
theorem dX13_pulling_59 : decode cX13_pulling 59 = .ok (.iload 4, 2) := by decide +kernel
theorem dX13_pulling_61 : decode cX13_pulling 61 = .ok (.idiv, 1) := by decide +kernel
theorem dX13_pulling_62 : decode cX13_pulling 62 = .ok (.iconst 5, 1) := by decide +kernel
theorem dX13_pulling_63 : decode cX13_pulling 63 = .ok (.irem, 1) := by decide +kernel
theorem dX13_pulling_64 : decode cX13_pulling 64 = .ok (.istore 7, 2) := by decide +kernel
theorem dX13_pulling_66 : decode cX13_pulling 66 = .ok (.iload 7, 2) := by decide +kernel
theorem dX13_pulling_68 : decode cX13_pulling 68 = .ok (.ifCond .le 86, 3) := by decide +kernel
theorem dX13_pulling_71 : decode cX13_pulling 71 = .ok (.iload 7, 2) := by decide +kernel
theorem dX13_pulling_73 : decode cX13_pulling 73 = .ok (.aload_n 0, 1) := by decide +kernel
theorem dX13_pulling_74 : decode cX13_pulling 74 = .ok (.iconst 0, 1) := by decide +kernel
theorem dX13_pulling_75 : decode cX13_pulling 75 = .ok (.iload_n 1, 1) := by decide +kernel
theorem dX13_pulling_76 : decode cX13_pulling 76 = .ok (.iload 6, 2) := by decide +kernel
theorem dX13_pulling_78 : decode cX13_pulling 78 = .ok (.invokevirtual 516, 3) := by decide +kernel
theorem dX13_pulling_81 : decode cX13_pulling 81 = .ok (.if_icmp .gt 73, 3) := by decide +kernel
theorem dX13_pulling_84 : decode cX13_pulling 84 = .ok (.aload_n 0, 1) := by decide +kernel
theorem dX13_pulling_85 : decode cX13_pulling 85 = .ok (.getfield 234, 3) := by decide +kernel
theorem dX13_pulling_88 : decode cX13_pulling 88 = .ok (.iload_n 3, 1) := by decide +kernel
theorem dX13_pulling_89 : decode cX13_pulling 89 = .ok (.iload 4, 2) := by decide +kernel
theorem dX13_pulling_91 : decode cX13_pulling 91 = .ok (.isub, 1) := by decide +kernel
theorem dX13_pulling_92 : decode cX13_pulling 92 = .ok (.baload, 1) := by decide +kernel
theorem dX13_pulling_93 : decode cX13_pulling 93 = .ok (.ifCond .ne 61, 3) := by decide +kernel
theorem dX13_pulling_96 : decode cX13_pulling 96 = .ok (.iload_n 3, 1) := by decide +kernel
theorem dX13_pulling_97 : decode cX13_pulling 97 = .ok (.iload 4, 2) := by decide +kernel
theorem dX13_pulling_99 : decode cX13_pulling 99 = .ok (.isub, 1) := by decide +kernel
theorem dX13_pulling_100 : decode cX13_pulling 100 = .ok (.istore 8, 2) := by decide +kernel
theorem dX13_pulling_102 : decode cX13_pulling 102 = .ok (.iconst 0, 1) := by decide +kernel
theorem dX13_pulling_103 : decode cX13_pulling 103 = .ok (.istore 9, 2) := by decide +kernel
theorem dX13_pulling_105 : decode cX13_pulling 105 = .ok (.iload 9, 2) := by decide +kernel
theorem dX13_pulling_107 : decode cX13_pulling 107 = .ok (.iconst 4, 1) := by decide +kernel
theorem dX13_pulling_108 : decode cX13_pulling 108 = .ok (.if_icmp .ge 26, 3) := by decide +kernel
theorem dX13_pulling_111 : decode cX13_pulling 111 = .ok (.aload_n 0, 1) := by decide +kernel
theorem dX13_pulling_112 : decode cX13_pulling 112 = .ok (.getfield 237, 3) := by decide +kernel
theorem dX13_pulling_115 : decode cX13_pulling 115 = .ok (.iload 9, 2) := by decide +kernel
theorem dX13_pulling_117 : decode cX13_pulling 117 = .ok (.iload 8, 2) := by decide +kernel
theorem dX13_pulling_119 : decode cX13_pulling 119 = .ok (.iconst 5, 1) := by decide +kernel
theorem dX13_pulling_120 : decode cX13_pulling 120 = .ok (.irem, 1) := by decide +kernel
theorem dX13_pulling_121 : decode cX13_pulling 121 = .ok (.iastore, 1) := by decide +kernel
theorem dX13_pulling_122 : decode cX13_pulling 122 = .ok (.iload 8, 2) := by decide +kernel
theorem dX13_pulling_124 : decode cX13_pulling 124 = .ok (.iconst 5, 1) := by decide +kernel
theorem dX13_pulling_125 : decode cX13_pulling 125 = .ok (.idiv, 1) := by decide +kernel
theorem dX13_pulling_126 : decode cX13_pulling 126 = .ok (.istore 8, 2) := by decide +kernel
theorem dX13_pulling_128 : decode cX13_pulling 128 = .ok (.iinc 9 1, 3) := by decide +kernel
theorem dX13_pulling_131 : decode cX13_pulling 131 = .ok (.goto (-26), 3) := by decide +kernel
theorem dX13_pulling_134 : decode cX13_pulling 134 = .ok (.iload 5, 2) := by decide +kernel
theorem dX13_pulling_136 : decode cX13_pulling 136 = .ok (.ifCond .ne 11, 3) := by decide +kernel
theorem dX13_pulling_139 : decode cX13_pulling 139 = .ok (.aload_n 0, 1) := by decide +kernel
theorem dX13_pulling_140 : decode cX13_pulling 140 = .ok (.iload_n 1, 1) := by decide +kernel
theorem dX13_pulling_141 : decode cX13_pulling 141 = .ok (.invokevirtual 626, 3) := by decide +kernel
theorem dX13_pulling_144 : decode cX13_pulling 144 = .ok (.ifCond .eq 7, 3) := by decide +kernel
theorem dX13_pulling_147 : decode cX13_pulling 147 = .ok (.iconst 1, 1) := by decide +kernel
theorem dX13_pulling_148 : decode cX13_pulling 148 = .ok (.goto 4, 3) := by decide +kernel
theorem dX13_pulling_151 : decode cX13_pulling 151 = .ok (.iconst 0, 1) := by decide +kernel
theorem dX13_pulling_152 : decode cX13_pulling 152 = .ok (.istore 5, 2) := by decide +kernel
theorem dX13_pulling_154 : decode cX13_pulling 154 = .ok (.iload 4, 2) := by decide +kernel
theorem dX13_pulling_156 : decode cX13_pulling 156 = .ok (.iconst 5, 1) := by decide +kernel
theorem dX13_pulling_157 : decode cX13_pulling 157 = .ok (.imul, 1) := by decide +kernel
theorem dX13_pulling_158 : decode cX13_pulling 158 = .ok (.istore 4, 2) := by decide +kernel
theorem dX13_pulling_160 : decode cX13_pulling 160 = .ok (.iinc 6 1, 3) := by decide +kernel
theorem dX13_pulling_163 : decode cX13_pulling 163 = .ok (.goto (-111), 3) := by decide +kernel
theorem dX13_pulling_166 : decode cX13_pulling 166 = .ok (.aload_n 0, 1) := by decide +kernel
theorem dX13_pulling_167 : decode cX13_pulling 167 = .ok (.getfield 234, 3) := by decide +kernel
theorem dX13_pulling_170 : decode cX13_pulling 170 = .ok (.iload_n 3, 1) := by decide +kernel
theorem dX13_pulling_171 : decode cX13_pulling 171 = .ok (.iload 5, 2) := by decide +kernel
theorem dX13_pulling_173 : decode cX13_pulling 173 = .ok (.bastore, 1) := by decide +kernel
theorem dX13_pulling_174 : decode cX13_pulling 174 = .ok (.iinc 3 1, 3) := by decide +kernel
theorem dX13_pulling_177 : decode cX13_pulling 177 = .ok (.goto (-139), 3) := by decide +kernel
theorem dX13_pulling_180 : decode cX13_pulling 180 = .ok (.aload_n 0, 1) := by decide +kernel
theorem dX13_pulling_181 : decode cX13_pulling 181 = .ok (.getfield 234, 3) := by decide +kernel
theorem dX13_pulling_184 : decode cX13_pulling 184 = .ok (.iload_n 2, 1) := by decide +kernel
theorem dX13_pulling_185 : decode cX13_pulling 185 = .ok (.baload, 1) := by decide +kernel
theorem dX13_pulling_186 : decode cX13_pulling 186 = .ok (.ifCond .eq 7, 3) := by decide +kernel
theorem dX13_pulling_189 : decode cX13_pulling 189 = .ok (.iconst 1, 1) := by decide +kernel
theorem dX13_pulling_190 : decode cX13_pulling 190 = .ok (.goto 4, 3) := by decide +kernel
theorem dX13_pulling_193 : decode cX13_pulling 193 = .ok (.iconst 0, 1) := by decide +kernel
theorem dX13_pulling_194 : decode cX13_pulling 194 = .ok (.ireturn, 1) := by decide +kernel
theorem dX13_years_0 : decode cX13_years 0 = .ok (.aload_n 0, 1) := by decide +kernel
theorem dX13_years_1 : decode cX13_years 1 = .ok (.iload_n 1, 1) := by decide +kernel
theorem dX13_years_2 : decode cX13_years 2 = .ok (.iconst 1, 1) := by decide +kernel
theorem dX13_years_3 : decode cX13_years 3 = .ok (.bipush 100, 2) := by decide +kernel
theorem dX13_years_5 : decode cX13_years 5 = .ok (.invokevirtual 597, 3) := by decide +kernel
theorem dX13_years_8 : decode cX13_years 8 = .ok (.ifCond .ne 9, 3) := by decide +kernel
theorem dX13_years_11 : decode cX13_years 11 = .ok (.aload_n 0, 1) := by decide +kernel
theorem dX13_years_12 : decode cX13_years 12 = .ok (.iconst 2, 1) := by decide +kernel
theorem dX13_years_13 : decode cX13_years 13 = .ok (.invokevirtual 250, 3) := by decide +kernel
theorem dX13_years_16 : decode cX13_years 16 = .ok (.ireturn, 1) := by decide +kernel
theorem dX13_years_17 : decode cX13_years 17 = .ok (.aload_n 0, 1) := by decide +kernel
theorem dX13_years_18 : decode cX13_years 18 = .ok (.invokevirtual 629, 3) := by decide +kernel
theorem dX13_years_21 : decode cX13_years 21 = .ok (.iconst 0, 1) := by decide +kernel
theorem dX13_years_22 : decode cX13_years 22 = .ok (.istore_n 2, 1) := by decide +kernel
theorem dX13_years_23 : decode cX13_years 23 = .ok (.iconst 0, 1) := by decide +kernel
theorem dX13_years_24 : decode cX13_years 24 = .ok (.istore_n 3, 1) := by decide +kernel
theorem dX13_years_25 : decode cX13_years 25 = .ok (.iload_n 3, 1) := by decide +kernel
theorem dX13_years_26 : decode cX13_years 26 = .ok (.iload_n 1, 1) := by decide +kernel
theorem dX13_years_27 : decode cX13_years 27 = .ok (.if_icmp .ge 22, 3) := by decide +kernel
theorem dX13_years_30 : decode cX13_years 30 = .ok (.aload_n 0, 1) := by decide +kernel
theorem dX13_years_31 : decode cX13_years 31 = .ok (.iconst 0, 1) := by decide +kernel
theorem dX13_years_32 : decode cX13_years 32 = .ok (.iconst 0, 1) := by decide +kernel
theorem dX13_years_33 : decode cX13_years 33 = .ok (.invokevirtual 600, 3) := by decide +kernel
theorem dX13_years_36 : decode cX13_years 36 = .ok (.iload_n 2, 1) := by decide +kernel
theorem dX13_years_37 : decode cX13_years 37 = .ok (.aload_n 0, 1) := by decide +kernel
theorem dX13_years_38 : decode cX13_years 38 = .ok (.getfield 204, 3) := by decide +kernel
theorem dX13_years_41 : decode cX13_years 41 = .ok (.iadd, 1) := by decide +kernel
theorem dX13_years_42 : decode cX13_years 42 = .ok (.istore_n 2, 1) := by decide +kernel
theorem dX13_years_43 : decode cX13_years 43 = .ok (.iinc 3 1, 3) := by decide +kernel
theorem dX13_years_46 : decode cX13_years 46 = .ok (.goto (-21), 3) := by decide +kernel
theorem dX13_years_49 : decode cX13_years 49 = .ok (.iload_n 2, 1) := by decide +kernel
theorem dX13_years_50 : decode cX13_years 50 = .ok (.ireturn, 1) := by decide +kernel
theorem dX13_draw_0 : decode cX13_draw 0 = .ok (.aload_n 0, 1) := by decide +kernel
theorem dX13_draw_1 : decode cX13_draw 1 = .ok (.ldc2_w 632, 3) := by decide +kernel
theorem dX13_draw_4 : decode cX13_draw 4 = .ok (.aload_n 0, 1) := by decide +kernel
theorem dX13_draw_5 : decode cX13_draw 5 = .ok (.getfield 195, 3) := by decide +kernel
theorem dX13_draw_8 : decode cX13_draw 8 = .ok (.lmul, 1) := by decide +kernel
theorem dX13_draw_9 : decode cX13_draw 9 = .ok (.ldc2_w 634, 3) := by decide +kernel
theorem dX13_draw_12 : decode cX13_draw 12 = .ok (.ladd, 1) := by decide +kernel
theorem dX13_draw_13 : decode cX13_draw 13 = .ok (.ldc2_w 636, 3) := by decide +kernel
theorem dX13_draw_16 : decode cX13_draw 16 = .ok (.lrem, 1) := by decide +kernel
theorem dX13_draw_17 : decode cX13_draw 17 = .ok (.putfield 195, 3) := by decide +kernel
theorem dX13_draw_20 : decode cX13_draw 20 = .ok (.aload_n 0, 1) := by decide +kernel
theorem dX13_draw_21 : decode cX13_draw 21 = .ok (.getfield 195, 3) := by decide +kernel
theorem dX13_draw_24 : decode cX13_draw 24 = .ok (.ldc2_w 638, 3) := by decide +kernel
theorem dX13_draw_27 : decode cX13_draw 27 = .ok (.ldiv, 1) := by decide +kernel
theorem dX13_draw_28 : decode cX13_draw 28 = .ok (.iload_n 1, 1) := by decide +kernel
theorem dX13_draw_29 : decode cX13_draw 29 = .ok (.i2l, 1) := by decide +kernel
theorem dX13_draw_30 : decode cX13_draw 30 = .ok (.lrem, 1) := by decide +kernel
theorem dX13_draw_31 : decode cX13_draw 31 = .ok (.l2i, 1) := by decide +kernel
theorem dX13_draw_32 : decode cX13_draw 32 = .ok (.ireturn, 1) := by decide +kernel
theorem dX13_chance_0 : decode cX13_chance 0 = .ok (.aload_n 0, 1) := by decide +kernel
theorem dX13_chance_1 : decode cX13_chance 1 = .ok (.iload_n 1, 1) := by decide +kernel
theorem dX13_chance_2 : decode cX13_chance 2 = .ok (.iconst 1, 1) := by decide +kernel
theorem dX13_chance_3 : decode cX13_chance 3 = .ok (.bipush 100, 2) := by decide +kernel
theorem dX13_chance_5 : decode cX13_chance 5 = .ok (.invokevirtual 597, 3) := by decide +kernel
theorem dX13_chance_8 : decode cX13_chance 8 = .ok (.ifCond .ne 9, 3) := by decide +kernel
theorem dX13_chance_11 : decode cX13_chance 11 = .ok (.aload_n 0, 1) := by decide +kernel
theorem dX13_chance_12 : decode cX13_chance 12 = .ok (.iconst 2, 1) := by decide +kernel
theorem dX13_chance_13 : decode cX13_chance 13 = .ok (.invokevirtual 250, 3) := by decide +kernel
theorem dX13_chance_16 : decode cX13_chance 16 = .ok (.ireturn, 1) := by decide +kernel
theorem dX13_chance_17 : decode cX13_chance 17 = .ok (.aload_n 0, 1) := by decide +kernel
theorem dX13_chance_18 : decode cX13_chance 18 = .ok (.invokevirtual 629, 3) := by decide +kernel
theorem dX13_chance_21 : decode cX13_chance 21 = .ok (.iconst 0, 1) := by decide +kernel
theorem dX13_chance_22 : decode cX13_chance 22 = .ok (.istore_n 2, 1) := by decide +kernel
theorem dX13_chance_23 : decode cX13_chance 23 = .ok (.iconst 0, 1) := by decide +kernel
theorem dX13_chance_24 : decode cX13_chance 24 = .ok (.istore_n 3, 1) := by decide +kernel
theorem dX13_chance_25 : decode cX13_chance 25 = .ok (.iload_n 3, 1) := by decide +kernel
theorem dX13_chance_26 : decode cX13_chance 26 = .ok (.iload_n 1, 1) := by decide +kernel
theorem dX13_chance_27 : decode cX13_chance 27 = .ok (.if_icmp .ge 50, 3) := by decide +kernel
theorem dX13_chance_30 : decode cX13_chance 30 = .ok (.aload_n 0, 1) := by decide +kernel
theorem dX13_chance_31 : decode cX13_chance 31 = .ok (.bipush 100, 2) := by decide +kernel
theorem dX13_chance_33 : decode cX13_chance 33 = .ok (.invokevirtual 640, 3) := by decide +kernel
theorem dX13_chance_36 : decode cX13_chance 36 = .ok (.aload_n 0, 1) := by decide +kernel
theorem dX13_chance_37 : decode cX13_chance 37 = .ok (.iconst 3, 1) := by decide +kernel
theorem dX13_chance_38 : decode cX13_chance 38 = .ok (.invokevirtual 501, 3) := by decide +kernel
theorem dX13_chance_41 : decode cX13_chance 41 = .ok (.if_icmp .ge 7, 3) := by decide +kernel
theorem dX13_chance_44 : decode cX13_chance 44 = .ok (.iconst 1, 1) := by decide +kernel
theorem dX13_chance_45 : decode cX13_chance 45 = .ok (.goto 4, 3) := by decide +kernel
theorem dX13_chance_48 : decode cX13_chance 48 = .ok (.iconst 0, 1) := by decide +kernel
theorem dX13_chance_49 : decode cX13_chance 49 = .ok (.istore 4, 2) := by decide +kernel
theorem dX13_chance_51 : decode cX13_chance 51 = .ok (.iload_n 2, 1) := by decide +kernel
theorem dX13_chance_52 : decode cX13_chance 52 = .ok (.iload 4, 2) := by decide +kernel
theorem dX13_chance_54 : decode cX13_chance 54 = .ok (.ifCond .eq 7, 3) := by decide +kernel
theorem dX13_chance_57 : decode cX13_chance 57 = .ok (.iconst 1, 1) := by decide +kernel
theorem dX13_chance_58 : decode cX13_chance 58 = .ok (.goto 4, 3) := by decide +kernel
theorem dX13_chance_61 : decode cX13_chance 61 = .ok (.iconst 0, 1) := by decide +kernel
theorem dX13_chance_62 : decode cX13_chance 62 = .ok (.iadd, 1) := by decide +kernel
theorem dX13_chance_63 : decode cX13_chance 63 = .ok (.istore_n 2, 1) := by decide +kernel
theorem dX13_chance_64 : decode cX13_chance 64 = .ok (.aload_n 0, 1) := by decide +kernel
theorem dX13_chance_65 : decode cX13_chance 65 = .ok (.iconst 0, 1) := by decide +kernel
theorem dX13_chance_66 : decode cX13_chance 66 = .ok (.iload 4, 2) := by decide +kernel
theorem dX13_chance_68 : decode cX13_chance 68 = .ok (.invokevirtual 600, 3) := by decide +kernel
theorem dX13_chance_71 : decode cX13_chance 71 = .ok (.iinc 3 1, 3) := by decide +kernel
theorem dX13_chance_74 : decode cX13_chance 74 = .ok (.goto (-49), 3) := by decide +kernel
theorem dX13_chance_77 : decode cX13_chance 77 = .ok (.iload_n 2, 1) := by decide +kernel
theorem dX13_chance_78 : decode cX13_chance 78 = .ok (.ireturn, 1) := by decide +kernel
theorem dX13_go_0 : decode cX13_go 0 = .ok (.aload_n 0, 1) := by decide +kernel
theorem dX13_go_1 : decode cX13_go 1 = .ok (.iload_n 1, 1) := by decide +kernel
theorem dX13_go_2 : decode cX13_go 2 = .ok (.invokevirtual 591, 3) := by decide +kernel
theorem dX13_go_5 : decode cX13_go 5 = .ok (.ifCond .eq 21, 3) := by decide +kernel
theorem dX13_go_8 : decode cX13_go 8 = .ok (.aload_n 0, 1) := by decide +kernel
theorem dX13_go_9 : decode cX13_go 9 = .ok (.iload_n 2, 1) := by decide +kernel
theorem dX13_go_10 : decode cX13_go 10 = .ok (.invokevirtual 588, 3) := by decide +kernel
theorem dX13_go_13 : decode cX13_go 13 = .ok (.ifCond .eq 13, 3) := by decide +kernel
theorem dX13_go_16 : decode cX13_go 16 = .ok (.aload_n 0, 1) := by decide +kernel
theorem dX13_go_17 : decode cX13_go 17 = .ok (.getfield 168, 3) := by decide +kernel
theorem dX13_go_20 : decode cX13_go 20 = .ok (.iload_n 1, 1) := by decide +kernel
theorem dX13_go_21 : decode cX13_go 21 = .ok (.iaload, 1) := by decide +kernel
theorem dX13_go_22 : decode cX13_go 22 = .ok (.iload_n 2, 1) := by decide +kernel
theorem dX13_go_23 : decode cX13_go 23 = .ok (.if_icmp .ne 17, 3) := by decide +kernel
theorem dX13_go_26 : decode cX13_go 26 = .ok (.aload_n 0, 1) := by decide +kernel
theorem dX13_go_27 : decode cX13_go 27 = .ok (.iconst 3, 1) := by decide +kernel
theorem dX13_go_28 : decode cX13_go 28 = .ok (.invokevirtual 250, 3) := by decide +kernel
theorem dX13_go_31 : decode cX13_go 31 = .ok (.ifCond .lt 7, 3) := by decide +kernel
theorem dX13_go_34 : decode cX13_go 34 = .ok (.iconst 1, 1) := by decide +kernel
theorem dX13_go_35 : decode cX13_go 35 = .ok (.goto 4, 3) := by decide +kernel
theorem dX13_go_38 : decode cX13_go 38 = .ok (.iconst 0, 1) := by decide +kernel
theorem dX13_go_39 : decode cX13_go 39 = .ok (.ireturn, 1) := by decide +kernel
theorem dX13_go_40 : decode cX13_go 40 = .ok (.aload_n 0, 1) := by decide +kernel
theorem dX13_go_41 : decode cX13_go 41 = .ok (.invokevirtual 629, 3) := by decide +kernel
theorem dX13_go_44 : decode cX13_go 44 = .ok (.aload_n 0, 1) := by decide +kernel
theorem dX13_go_45 : decode cX13_go 45 = .ok (.getfield 168, 3) := by decide +kernel
theorem dX13_go_48 : decode cX13_go 48 = .ok (.iload_n 1, 1) := by decide +kernel
theorem dX13_go_49 : decode cX13_go 49 = .ok (.iload_n 2, 1) := by decide +kernel
theorem dX13_go_50 : decode cX13_go 50 = .ok (.iastore, 1) := by decide +kernel
theorem dX13_go_51 : decode cX13_go 51 = .ok (.iconst 1, 1) := by decide +kernel
theorem dX13_go_52 : decode cX13_go 52 = .ok (.ireturn, 1) := by decide +kernel
theorem dX13_pull_0 : decode cX13_pull 0 = .ok (.aload_n 0, 1) := by decide +kernel
theorem dX13_pull_1 : decode cX13_pull 1 = .ok (.iload_n 1, 1) := by decide +kernel
theorem dX13_pull_2 : decode cX13_pull 2 = .ok (.invokevirtual 591, 3) := by decide +kernel
theorem dX13_pull_5 : decode cX13_pull 5 = .ok (.ifCond .eq 13, 3) := by decide +kernel
theorem dX13_pull_8 : decode cX13_pull 8 = .ok (.aload_n 0, 1) := by decide +kernel
theorem dX13_pull_9 : decode cX13_pull 9 = .ok (.iconst 0, 1) := by decide +kernel
theorem dX13_pull_10 : decode cX13_pull 10 = .ok (.iload_n 1, 1) := by decide +kernel
theorem dX13_pull_11 : decode cX13_pull 11 = .ok (.invokevirtual 507, 3) := by decide +kernel
theorem dX13_pull_14 : decode cX13_pull 14 = .ok (.iconst (-1), 1) := by decide +kernel
theorem dX13_pull_15 : decode cX13_pull 15 = .ok (.if_icmp .ne 9, 3) := by decide +kernel
theorem dX13_pull_18 : decode cX13_pull 18 = .ok (.aload_n 0, 1) := by decide +kernel
theorem dX13_pull_19 : decode cX13_pull 19 = .ok (.iconst 3, 1) := by decide +kernel
theorem dX13_pull_20 : decode cX13_pull 20 = .ok (.invokevirtual 250, 3) := by decide +kernel
theorem dX13_pull_23 : decode cX13_pull 23 = .ok (.ireturn, 1) := by decide +kernel
theorem dX13_pull_24 : decode cX13_pull 24 = .ok (.aload_n 0, 1) := by decide +kernel
theorem dX13_pull_25 : decode cX13_pull 25 = .ok (.invokevirtual 629, 3) := by decide +kernel
theorem dX13_pull_28 : decode cX13_pull 28 = .ok (.aload_n 0, 1) := by decide +kernel
theorem dX13_pull_29 : decode cX13_pull 29 = .ok (.iconst 0, 1) := by decide +kernel
theorem dX13_pull_30 : decode cX13_pull 30 = .ok (.iload_n 1, 1) := by decide +kernel
theorem dX13_pull_31 : decode cX13_pull 31 = .ok (.invokevirtual 544, 3) := by decide +kernel
theorem dX13_pull_34 : decode cX13_pull 34 = .ok (.istore_n 2, 1) := by decide +kernel
theorem dX13_pull_35 : decode cX13_pull 35 = .ok (.iload_n 2, 1) := by decide +kernel
theorem dX13_pull_36 : decode cX13_pull 36 = .ok (.aload_n 0, 1) := by decide +kernel
theorem dX13_pull_37 : decode cX13_pull 37 = .ok (.iconst 0, 1) := by decide +kernel
theorem dX13_pull_38 : decode cX13_pull 38 = .ok (.invokevirtual 565, 3) := by decide +kernel
theorem dX13_pull_41 : decode cX13_pull 41 = .ok (.ior, 1) := by decide +kernel
theorem dX13_pull_42 : decode cX13_pull 42 = .ok (.invokestatic 568, 3) := by decide +kernel
theorem dX13_pull_45 : decode cX13_pull 45 = .ok (.ireturn, 1) := by decide +kernel
theorem dX13_peace_0 : decode cX13_peace 0 = .ok (.iload_n 1, 1) := by decide +kernel
theorem dX13_peace_1 : decode cX13_peace 1 = .ok (.iconst 0, 1) := by decide +kernel
theorem dX13_peace_2 : decode cX13_peace 2 = .ok (.aload_n 0, 1) := by decide +kernel
theorem dX13_peace_3 : decode cX13_peace 3 = .ok (.getfield 75, 3) := by decide +kernel
theorem dX13_peace_6 : decode cX13_peace 6 = .ok (.aload_n 0, 1) := by decide +kernel
theorem dX13_peace_7 : decode cX13_peace 7 = .ok (.getfield 51, 3) := by decide +kernel
theorem dX13_peace_10 : decode cX13_peace 10 = .ok (.iaload, 1) := by decide +kernel
theorem dX13_peace_11 : decode cX13_peace 11 = .ok (.iconst 1, 1) := by decide +kernel
theorem dX13_peace_12 : decode cX13_peace 12 = .ok (.isub, 1) := by decide +kernel
theorem dX13_peace_13 : decode cX13_peace 13 = .ok (.invokestatic 347, 3) := by decide +kernel
theorem dX13_peace_16 : decode cX13_peace 16 = .ok (.ifCond .eq 16, 3) := by decide +kernel
theorem dX13_peace_19 : decode cX13_peace 19 = .ok (.aload_n 0, 1) := by decide +kernel
theorem dX13_peace_20 : decode cX13_peace 20 = .ok (.getfield 165, 3) := by decide +kernel
theorem dX13_peace_23 : decode cX13_peace 23 = .ok (.iconst 0, 1) := by decide +kernel
theorem dX13_peace_24 : decode cX13_peace 24 = .ok (.iaload, 1) := by decide +kernel
theorem dX13_peace_25 : decode cX13_peace 25 = .ok (.iload_n 1, 1) := by decide +kernel
theorem dX13_peace_26 : decode cX13_peace 26 = .ok (.invokestatic 389, 3) := by decide +kernel
theorem dX13_peace_29 : decode cX13_peace 29 = .ok (.ifCond .eq 17, 3) := by decide +kernel
theorem dX13_peace_32 : decode cX13_peace 32 = .ok (.aload_n 0, 1) := by decide +kernel
theorem dX13_peace_33 : decode cX13_peace 33 = .ok (.iconst 3, 1) := by decide +kernel
theorem dX13_peace_34 : decode cX13_peace 34 = .ok (.invokevirtual 250, 3) := by decide +kernel
theorem dX13_peace_37 : decode cX13_peace 37 = .ok (.ifCond .lt 7, 3) := by decide +kernel
theorem dX13_peace_40 : decode cX13_peace 40 = .ok (.iconst 1, 1) := by decide +kernel
theorem dX13_peace_41 : decode cX13_peace 41 = .ok (.goto 4, 3) := by decide +kernel
theorem dX13_peace_44 : decode cX13_peace 44 = .ok (.iconst 0, 1) := by decide +kernel
theorem dX13_peace_45 : decode cX13_peace 45 = .ok (.ireturn, 1) := by decide +kernel
theorem dX13_peace_46 : decode cX13_peace 46 = .ok (.aload_n 0, 1) := by decide +kernel
theorem dX13_peace_47 : decode cX13_peace 47 = .ok (.invokevirtual 629, 3) := by decide +kernel
theorem dX13_peace_50 : decode cX13_peace 50 = .ok (.aload_n 0, 1) := by decide +kernel
theorem dX13_peace_51 : decode cX13_peace 51 = .ok (.getfield 165, 3) := by decide +kernel
theorem dX13_peace_54 : decode cX13_peace 54 = .ok (.iconst 0, 1) := by decide +kernel
theorem dX13_peace_55 : decode cX13_peace 55 = .ok (.dup2, 1) := by decide +kernel
theorem dX13_peace_56 : decode cX13_peace 56 = .ok (.iaload, 1) := by decide +kernel
theorem dX13_peace_57 : decode cX13_peace 57 = .ok (.iconst 1, 1) := by decide +kernel
theorem dX13_peace_58 : decode cX13_peace 58 = .ok (.iload_n 1, 1) := by decide +kernel
theorem dX13_peace_59 : decode cX13_peace 59 = .ok (.ishl, 1) := by decide +kernel
theorem dX13_peace_60 : decode cX13_peace 60 = .ok (.ior, 1) := by decide +kernel
theorem dX13_peace_61 : decode cX13_peace 61 = .ok (.iastore, 1) := by decide +kernel
theorem dX13_peace_62 : decode cX13_peace 62 = .ok (.iconst 1, 1) := by decide +kernel
theorem dX13_peace_63 : decode cX13_peace 63 = .ok (.ireturn, 1) := by decide +kernel
theorem dX13_seed_0 : decode cX13_seed 0 = .ok (.iload_n 1, 1) := by decide +kernel
theorem dX13_seed_1 : decode cX13_seed 1 = .ok (.ifCond .ge 17, 3) := by decide +kernel
theorem dX13_seed_4 : decode cX13_seed 4 = .ok (.aload_n 0, 1) := by decide +kernel
theorem dX13_seed_5 : decode cX13_seed 5 = .ok (.iconst 5, 1) := by decide +kernel
theorem dX13_seed_6 : decode cX13_seed 6 = .ok (.invokevirtual 250, 3) := by decide +kernel
theorem dX13_seed_9 : decode cX13_seed 9 = .ok (.ifCond .lt 7, 3) := by decide +kernel
theorem dX13_seed_12 : decode cX13_seed 12 = .ok (.iconst 1, 1) := by decide +kernel
theorem dX13_seed_13 : decode cX13_seed 13 = .ok (.goto 4, 3) := by decide +kernel
theorem dX13_seed_16 : decode cX13_seed 16 = .ok (.iconst 0, 1) := by decide +kernel
theorem dX13_seed_17 : decode cX13_seed 17 = .ok (.ireturn, 1) := by decide +kernel
theorem dX13_seed_18 : decode cX13_seed 18 = .ok (.aload_n 0, 1) := by decide +kernel
theorem dX13_seed_19 : decode cX13_seed 19 = .ok (.iload_n 1, 1) := by decide +kernel
theorem dX13_seed_20 : decode cX13_seed 20 = .ok (.i2l, 1) := by decide +kernel
theorem dX13_seed_21 : decode cX13_seed 21 = .ok (.putfield 195, 3) := by decide +kernel
theorem dX13_seed_24 : decode cX13_seed 24 = .ok (.iconst 1, 1) := by decide +kernel
theorem dX13_seed_25 : decode cX13_seed 25 = .ok (.ireturn, 1) := by decide +kernel
theorem dX13_kept_0 : decode cX13_kept 0 = .ok (.iload_n 1, 1) := by decide +kernel
theorem dX13_kept_1 : decode cX13_kept 1 = .ok (.iconst 0, 1) := by decide +kernel
theorem dX13_kept_2 : decode cX13_kept 2 = .ok (.aload_n 0, 1) := by decide +kernel
theorem dX13_kept_3 : decode cX13_kept 3 = .ok (.getfield 183, 3) := by decide +kernel
theorem dX13_kept_6 : decode cX13_kept 6 = .ok (.iconst 0, 1) := by decide +kernel
theorem dX13_kept_7 : decode cX13_kept 7 = .ok (.iaload, 1) := by decide +kernel
theorem dX13_kept_8 : decode cX13_kept 8 = .ok (.iconst 1, 1) := by decide +kernel
theorem dX13_kept_9 : decode cX13_kept 9 = .ok (.isub, 1) := by decide +kernel
theorem dX13_kept_10 : decode cX13_kept 10 = .ok (.invokestatic 347, 3) := by decide +kernel
theorem dX13_kept_13 : decode cX13_kept 13 = .ok (.ifCond .eq 25, 3) := by decide +kernel
theorem dX13_kept_16 : decode cX13_kept 16 = .ok (.iload_n 2, 1) := by decide +kernel
theorem dX13_kept_17 : decode cX13_kept 17 = .ok (.iconst 0, 1) := by decide +kernel
theorem dX13_kept_18 : decode cX13_kept 18 = .ok (.iconst 3, 1) := by decide +kernel
theorem dX13_kept_19 : decode cX13_kept 19 = .ok (.invokestatic 347, 3) := by decide +kernel
theorem dX13_kept_22 : decode cX13_kept 22 = .ok (.ifCond .eq 16, 3) := by decide +kernel
theorem dX13_kept_25 : decode cX13_kept 25 = .ok (.aload_n 0, 1) := by decide +kernel
theorem dX13_kept_26 : decode cX13_kept 26 = .ok (.getfield 186, 3) := by decide +kernel
theorem dX13_kept_29 : decode cX13_kept 29 = .ok (.iconst 4, 1) := by decide +kernel
theorem dX13_kept_30 : decode cX13_kept 30 = .ok (.iload_n 1, 1) := by decide +kernel
theorem dX13_kept_31 : decode cX13_kept 31 = .ok (.imul, 1) := by decide +kernel
theorem dX13_kept_32 : decode cX13_kept 32 = .ok (.iload_n 2, 1) := by decide +kernel
theorem dX13_kept_33 : decode cX13_kept 33 = .ok (.iadd, 1) := by decide +kernel
theorem dX13_kept_34 : decode cX13_kept 34 = .ok (.iaload, 1) := by decide +kernel
theorem dX13_kept_35 : decode cX13_kept 35 = .ok (.goto 4, 3) := by decide +kernel
theorem dX13_kept_38 : decode cX13_kept 38 = .ok (.iconst (-1), 1) := by decide +kernel
theorem dX13_kept_39 : decode cX13_kept 39 = .ok (.ireturn, 1) := by decide +kernel
theorem dX13_writes_0 : decode cX13_writes 0 = .ok (.aload_n 0, 1) := by decide +kernel
theorem dX13_writes_1 : decode cX13_writes 1 = .ok (.getfield 240, 3) := by decide +kernel
theorem dX13_writes_4 : decode cX13_writes 4 = .ok (.aload_n 0, 1) := by decide +kernel
theorem dX13_writes_5 : decode cX13_writes 5 = .ok (.getfield 243, 3) := by decide +kernel
theorem dX13_writes_8 : decode cX13_writes 8 = .ok (.iload_n 1, 1) := by decide +kernel
theorem dX13_writes_9 : decode cX13_writes 9 = .ok (.sipush 255, 3) := by decide +kernel
theorem dX13_writes_12 : decode cX13_writes 12 = .ok (.iand, 1) := by decide +kernel
theorem dX13_writes_13 : decode cX13_writes 13 = .ok (.iastore, 1) := by decide +kernel
theorem dX13_writes_14 : decode cX13_writes 14 = .ok (.aload_n 0, 1) := by decide +kernel
theorem dX13_writes_15 : decode cX13_writes 15 = .ok (.dup, 1) := by decide +kernel
theorem dX13_writes_16 : decode cX13_writes 16 = .ok (.getfield 243, 3) := by decide +kernel
theorem dX13_writes_19 : decode cX13_writes 19 = .ok (.iconst 1, 1) := by decide +kernel
theorem dX13_writes_20 : decode cX13_writes 20 = .ok (.iadd, 1) := by decide +kernel
theorem dX13_writes_21 : decode cX13_writes 21 = .ok (.putfield 243, 3) := by decide +kernel
theorem dX13_writes_24 : decode cX13_writes 24 = .ok (.return_, 1) := by decide +kernel
theorem dX13_writesTwo_0 : decode cX13_writesTwo 0 = .ok (.aload_n 0, 1) := by decide +kernel
theorem dX13_writesTwo_1 : decode cX13_writesTwo 1 = .ok (.iload_n 1, 1) := by decide +kernel
theorem dX13_writesTwo_2 : decode cX13_writesTwo 2 = .ok (.bipush 8, 2) := by decide +kernel
theorem dX13_writesTwo_4 : decode cX13_writesTwo 4 = .ok (.ishr, 1) := by decide +kernel
theorem dX13_writesTwo_5 : decode cX13_writesTwo 5 = .ok (.invokevirtual 643, 3) := by decide +kernel
theorem dX13_writesTwo_8 : decode cX13_writesTwo 8 = .ok (.aload_n 0, 1) := by decide +kernel
theorem dX13_writesTwo_9 : decode cX13_writesTwo 9 = .ok (.iload_n 1, 1) := by decide +kernel
theorem dX13_writesTwo_10 : decode cX13_writesTwo 10 = .ok (.invokevirtual 643, 3) := by decide +kernel
theorem dX13_writesTwo_13 : decode cX13_writesTwo 13 = .ok (.return_, 1) := by decide +kernel
theorem dX13_image_0 : decode cX13_image 0 = .ok (.aload_n 0, 1) := by decide +kernel
theorem dX13_image_1 : decode cX13_image 1 = .ok (.iconst 0, 1) := by decide +kernel
theorem dX13_image_2 : decode cX13_image 2 = .ok (.putfield 243, 3) := by decide +kernel
theorem dX13_image_5 : decode cX13_image 5 = .ok (.aload_n 0, 1) := by decide +kernel
theorem dX13_image_6 : decode cX13_image 6 = .ok (.aload_n 0, 1) := by decide +kernel
theorem dX13_image_7 : decode cX13_image 7 = .ok (.getfield 162, 3) := by decide +kernel
theorem dX13_image_10 : decode cX13_image 10 = .ok (.iconst 0, 1) := by decide +kernel
theorem dX13_image_11 : decode cX13_image 11 = .ok (.iaload, 1) := by decide +kernel
theorem dX13_image_12 : decode cX13_image 12 = .ok (.invokevirtual 646, 3) := by decide +kernel
theorem dX13_image_15 : decode cX13_image 15 = .ok (.iconst 0, 1) := by decide +kernel
theorem dX13_image_16 : decode cX13_image 16 = .ok (.istore_n 1, 1) := by decide +kernel
theorem dX13_image_17 : decode cX13_image 17 = .ok (.iload_n 1, 1) := by decide +kernel
theorem dX13_image_18 : decode cX13_image 18 = .ok (.aload_n 0, 1) := by decide +kernel
theorem dX13_image_19 : decode cX13_image 19 = .ok (.getfield 63, 3) := by decide +kernel
theorem dX13_image_22 : decode cX13_image 22 = .ok (.aload_n 0, 1) := by decide +kernel
theorem dX13_image_23 : decode cX13_image 23 = .ok (.getfield 51, 3) := by decide +kernel
theorem dX13_image_26 : decode cX13_image 26 = .ok (.iaload, 1) := by decide +kernel
theorem dX13_image_27 : decode cX13_image 27 = .ok (.if_icmp .ge 61, 3) := by decide +kernel
theorem dX13_image_30 : decode cX13_image 30 = .ok (.aload_n 0, 1) := by decide +kernel
theorem dX13_image_31 : decode cX13_image 31 = .ok (.aload_n 0, 1) := by decide +kernel
theorem dX13_image_32 : decode cX13_image 32 = .ok (.getfield 168, 3) := by decide +kernel
theorem dX13_image_35 : decode cX13_image 35 = .ok (.iload_n 1, 1) := by decide +kernel
theorem dX13_image_36 : decode cX13_image 36 = .ok (.iaload, 1) := by decide +kernel
theorem dX13_image_37 : decode cX13_image 37 = .ok (.invokevirtual 643, 3) := by decide +kernel
theorem dX13_image_40 : decode cX13_image 40 = .ok (.aload_n 0, 1) := by decide +kernel
theorem dX13_image_41 : decode cX13_image 41 = .ok (.aload_n 0, 1) := by decide +kernel
theorem dX13_image_42 : decode cX13_image 42 = .ok (.iconst 0, 1) := by decide +kernel
theorem dX13_image_43 : decode cX13_image 43 = .ok (.iload_n 1, 1) := by decide +kernel
theorem dX13_image_44 : decode cX13_image 44 = .ok (.invokevirtual 522, 3) := by decide +kernel
theorem dX13_image_47 : decode cX13_image 47 = .ok (.invokevirtual 646, 3) := by decide +kernel
theorem dX13_image_50 : decode cX13_image 50 = .ok (.aload_n 0, 1) := by decide +kernel
theorem dX13_image_51 : decode cX13_image 51 = .ok (.aload_n 0, 1) := by decide +kernel
theorem dX13_image_52 : decode cX13_image 52 = .ok (.iconst 0, 1) := by decide +kernel
theorem dX13_image_53 : decode cX13_image 53 = .ok (.iload_n 1, 1) := by decide +kernel
theorem dX13_image_54 : decode cX13_image 54 = .ok (.invokevirtual 507, 3) := by decide +kernel
theorem dX13_image_57 : decode cX13_image 57 = .ok (.iconst 1, 1) := by decide +kernel
theorem dX13_image_58 : decode cX13_image 58 = .ok (.iadd, 1) := by decide +kernel
theorem dX13_image_59 : decode cX13_image 59 = .ok (.invokevirtual 643, 3) := by decide +kernel
theorem dX13_image_62 : decode cX13_image 62 = .ok (.aload_n 0, 1) := by decide +kernel
theorem dX13_image_63 : decode cX13_image 63 = .ok (.aload_n 0, 1) := by decide +kernel
theorem dX13_image_64 : decode cX13_image 64 = .ok (.iconst 0, 1) := by decide +kernel
theorem dX13_image_65 : decode cX13_image 65 = .ok (.iload_n 1, 1) := by decide +kernel
theorem dX13_image_66 : decode cX13_image 66 = .ok (.invokevirtual 510, 3) := by decide +kernel
theorem dX13_image_69 : decode cX13_image 69 = .ok (.invokevirtual 643, 3) := by decide +kernel
theorem dX13_image_72 : decode cX13_image 72 = .ok (.aload_n 0, 1) := by decide +kernel
theorem dX13_image_73 : decode cX13_image 73 = .ok (.aload_n 0, 1) := by decide +kernel
theorem dX13_image_74 : decode cX13_image 74 = .ok (.iconst 0, 1) := by decide +kernel
theorem dX13_image_75 : decode cX13_image 75 = .ok (.iload_n 1, 1) := by decide +kernel
theorem dX13_image_76 : decode cX13_image 76 = .ok (.invokevirtual 513, 3) := by decide +kernel
theorem dX13_image_79 : decode cX13_image 79 = .ok (.invokevirtual 643, 3) := by decide +kernel
theorem dX13_image_82 : decode cX13_image 82 = .ok (.iinc 1 1, 3) := by decide +kernel
theorem dX13_image_85 : decode cX13_image 85 = .ok (.goto (-68), 3) := by decide +kernel
theorem dX13_image_88 : decode cX13_image 88 = .ok (.iconst 0, 1) := by decide +kernel
theorem dX13_image_89 : decode cX13_image 89 = .ok (.istore_n 1, 1) := by decide +kernel
theorem dX13_image_90 : decode cX13_image 90 = .ok (.iload_n 1, 1) := by decide +kernel
theorem dX13_image_91 : decode cX13_image 91 = .ok (.aload_n 0, 1) := by decide +kernel
theorem dX13_image_92 : decode cX13_image 92 = .ok (.getfield 75, 3) := by decide +kernel
theorem dX13_image_95 : decode cX13_image 95 = .ok (.aload_n 0, 1) := by decide +kernel
theorem dX13_image_96 : decode cX13_image 96 = .ok (.getfield 51, 3) := by decide +kernel
theorem dX13_image_99 : decode cX13_image 99 = .ok (.iaload, 1) := by decide +kernel
theorem dX13_image_100 : decode cX13_image 100 = .ok (.if_icmp .ge 23, 3) := by decide +kernel
theorem dX13_image_103 : decode cX13_image 103 = .ok (.aload_n 0, 1) := by decide +kernel
theorem dX13_image_104 : decode cX13_image 104 = .ok (.aload_n 0, 1) := by decide +kernel
theorem dX13_image_105 : decode cX13_image 105 = .ok (.getfield 165, 3) := by decide +kernel
theorem dX13_image_108 : decode cX13_image 108 = .ok (.iconst 0, 1) := by decide +kernel
theorem dX13_image_109 : decode cX13_image 109 = .ok (.iaload, 1) := by decide +kernel
theorem dX13_image_110 : decode cX13_image 110 = .ok (.iload_n 1, 1) := by decide +kernel
theorem dX13_image_111 : decode cX13_image 111 = .ok (.ishr, 1) := by decide +kernel
theorem dX13_image_112 : decode cX13_image 112 = .ok (.iconst 1, 1) := by decide +kernel
theorem dX13_image_113 : decode cX13_image 113 = .ok (.iand, 1) := by decide +kernel
theorem dX13_image_114 : decode cX13_image 114 = .ok (.invokevirtual 643, 3) := by decide +kernel
theorem dX13_image_117 : decode cX13_image 117 = .ok (.iinc 1 1, 3) := by decide +kernel
theorem dX13_image_120 : decode cX13_image 120 = .ok (.goto (-30), 3) := by decide +kernel
theorem dX13_image_123 : decode cX13_image 123 = .ok (.sipush 167, 3) := by decide +kernel
theorem dX13_image_126 : decode cX13_image 126 = .ok (.istore_n 1, 1) := by decide +kernel
theorem dX13_image_127 : decode cX13_image 127 = .ok (.iconst 0, 1) := by decide +kernel
theorem dX13_image_128 : decode cX13_image 128 = .ok (.istore_n 2, 1) := by decide +kernel
theorem dX13_image_129 : decode cX13_image 129 = .ok (.iload_n 2, 1) := by decide +kernel
theorem dX13_image_130 : decode cX13_image 130 = .ok (.aload_n 0, 1) := by decide +kernel
theorem dX13_image_131 : decode cX13_image 131 = .ok (.getfield 243, 3) := by decide +kernel
theorem dX13_image_134 : decode cX13_image 134 = .ok (.if_icmp .ge 24, 3) := by decide +kernel
theorem dX13_image_137 : decode cX13_image 137 = .ok (.iconst 5, 1) := by decide +kernel
theorem dX13_image_138 : decode cX13_image 138 = .ok (.iload_n 1, 1) := by decide +kernel
theorem dX13_image_139 : decode cX13_image 139 = .ok (.imul, 1) := by decide +kernel
theorem dX13_image_140 : decode cX13_image 140 = .ok (.aload_n 0, 1) := by decide +kernel
theorem dX13_image_141 : decode cX13_image 141 = .ok (.getfield 240, 3) := by decide +kernel
theorem dX13_image_144 : decode cX13_image 144 = .ok (.iload_n 2, 1) := by decide +kernel
theorem dX13_image_145 : decode cX13_image 145 = .ok (.iaload, 1) := by decide +kernel
theorem dX13_image_146 : decode cX13_image 146 = .ok (.iadd, 1) := by decide +kernel
theorem dX13_image_147 : decode cX13_image 147 = .ok (.sipush 251, 3) := by decide +kernel
theorem dX13_image_150 : decode cX13_image 150 = .ok (.irem, 1) := by decide +kernel
theorem dX13_image_151 : decode cX13_image 151 = .ok (.istore_n 1, 1) := by decide +kernel
theorem dX13_image_152 : decode cX13_image 152 = .ok (.iinc 2 1, 3) := by decide +kernel
theorem dX13_image_155 : decode cX13_image 155 = .ok (.goto (-26), 3) := by decide +kernel
theorem dX13_image_158 : decode cX13_image 158 = .ok (.aload_n 0, 1) := by decide +kernel
theorem dX13_image_159 : decode cX13_image 159 = .ok (.iload_n 1, 1) := by decide +kernel
theorem dX13_image_160 : decode cX13_image 160 = .ok (.invokevirtual 643, 3) := by decide +kernel
theorem dX13_image_163 : decode cX13_image 163 = .ok (.aload_n 0, 1) := by decide +kernel
theorem dX13_image_164 : decode cX13_image 164 = .ok (.getfield 243, 3) := by decide +kernel
theorem dX13_image_167 : decode cX13_image 167 = .ok (.ireturn, 1) := by decide +kernel
theorem dX13_octet_0 : decode cX13_octet 0 = .ok (.iload_n 1, 1) := by decide +kernel
theorem dX13_octet_1 : decode cX13_octet 1 = .ok (.iconst 0, 1) := by decide +kernel
theorem dX13_octet_2 : decode cX13_octet 2 = .ok (.aload_n 0, 1) := by decide +kernel
theorem dX13_octet_3 : decode cX13_octet 3 = .ok (.getfield 243, 3) := by decide +kernel
theorem dX13_octet_6 : decode cX13_octet 6 = .ok (.iconst 1, 1) := by decide +kernel
theorem dX13_octet_7 : decode cX13_octet 7 = .ok (.isub, 1) := by decide +kernel
theorem dX13_octet_8 : decode cX13_octet 8 = .ok (.invokestatic 347, 3) := by decide +kernel
theorem dX13_octet_11 : decode cX13_octet 11 = .ok (.ifCond .eq 12, 3) := by decide +kernel
theorem dX13_octet_14 : decode cX13_octet 14 = .ok (.aload_n 0, 1) := by decide +kernel
theorem dX13_octet_15 : decode cX13_octet 15 = .ok (.getfield 240, 3) := by decide +kernel
theorem dX13_octet_18 : decode cX13_octet 18 = .ok (.iload_n 1, 1) := by decide +kernel
theorem dX13_octet_19 : decode cX13_octet 19 = .ok (.iaload, 1) := by decide +kernel
theorem dX13_octet_20 : decode cX13_octet 20 = .ok (.goto 4, 3) := by decide +kernel
theorem dX13_octet_23 : decode cX13_octet 23 = .ok (.iconst (-1), 1) := by decide +kernel
theorem dX13_octet_24 : decode cX13_octet 24 = .ok (.ireturn, 1) := by decide +kernel
theorem dX13_twoBytes_0 : decode cX13_twoBytes 0 = .ok (.aload_n 0, 1) := by decide +kernel
theorem dX13_twoBytes_1 : decode cX13_twoBytes 1 = .ok (.getfield 7, 3) := by decide +kernel
theorem dX13_twoBytes_4 : decode cX13_twoBytes 4 = .ok (.iload_n 1, 1) := by decide +kernel
theorem dX13_twoBytes_5 : decode cX13_twoBytes 5 = .ok (.iaload, 1) := by decide +kernel
theorem dX13_twoBytes_6 : decode cX13_twoBytes 6 = .ok (.bipush 8, 2) := by decide +kernel
theorem dX13_twoBytes_8 : decode cX13_twoBytes 8 = .ok (.ishl, 1) := by decide +kernel
theorem dX13_twoBytes_9 : decode cX13_twoBytes 9 = .ok (.aload_n 0, 1) := by decide +kernel
theorem dX13_twoBytes_10 : decode cX13_twoBytes 10 = .ok (.getfield 7, 3) := by decide +kernel
theorem dX13_twoBytes_13 : decode cX13_twoBytes 13 = .ok (.iload_n 1, 1) := by decide +kernel
theorem dX13_twoBytes_14 : decode cX13_twoBytes 14 = .ok (.iconst 1, 1) := by decide +kernel
theorem dX13_twoBytes_15 : decode cX13_twoBytes 15 = .ok (.iadd, 1) := by decide +kernel
theorem dX13_twoBytes_16 : decode cX13_twoBytes 16 = .ok (.iaload, 1) := by decide +kernel
theorem dX13_twoBytes_17 : decode cX13_twoBytes 17 = .ok (.ior, 1) := by decide +kernel
theorem dX13_twoBytes_18 : decode cX13_twoBytes 18 = .ok (.ireturn, 1) := by decide +kernel
theorem dX13_childOn_0 : decode cX13_childOn 0 = .ok (.bipush 16, 2) := by decide +kernel
theorem dX13_childOn_2 : decode cX13_childOn 2 = .ok (.iload_n 1, 1) := by decide +kernel
theorem dX13_childOn_3 : decode cX13_childOn 3 = .ok (.iadd, 1) := by decide +kernel
theorem dX13_childOn_4 : decode cX13_childOn 4 = .ok (.istore_n 3, 1) := by decide +kernel
theorem dX13_childOn_5 : decode cX13_childOn 5 = .ok (.aload_n 0, 1) := by decide +kernel
theorem dX13_childOn_6 : decode cX13_childOn 6 = .ok (.getfield 7, 3) := by decide +kernel
theorem dX13_childOn_9 : decode cX13_childOn 9 = .ok (.iload_n 2, 1) := by decide +kernel
theorem dX13_childOn_10 : decode cX13_childOn 10 = .ok (.iconst 3, 1) := by decide +kernel
theorem dX13_childOn_11 : decode cX13_childOn 11 = .ok (.iadd, 1) := by decide +kernel
theorem dX13_childOn_12 : decode cX13_childOn 12 = .ok (.iaload, 1) := by decide +kernel
theorem dX13_childOn_13 : decode cX13_childOn 13 = .ok (.iconst 1, 1) := by decide +kernel
theorem dX13_childOn_14 : decode cX13_childOn 14 = .ok (.isub, 1) := by decide +kernel
theorem dX13_childOn_15 : decode cX13_childOn 15 = .ok (.istore 4, 2) := by decide +kernel
theorem dX13_childOn_17 : decode cX13_childOn 17 = .ok (.aload_n 0, 1) := by decide +kernel
theorem dX13_childOn_18 : decode cX13_childOn 18 = .ok (.getfield 168, 3) := by decide +kernel
theorem dX13_childOn_21 : decode cX13_childOn 21 = .ok (.iload_n 3, 1) := by decide +kernel
theorem dX13_childOn_22 : decode cX13_childOn 22 = .ok (.aload_n 0, 1) := by decide +kernel
theorem dX13_childOn_23 : decode cX13_childOn 23 = .ok (.getfield 7, 3) := by decide +kernel
theorem dX13_childOn_26 : decode cX13_childOn 26 = .ok (.iload_n 2, 1) := by decide +kernel
theorem dX13_childOn_27 : decode cX13_childOn 27 = .ok (.iaload, 1) := by decide +kernel
theorem dX13_childOn_28 : decode cX13_childOn 28 = .ok (.iastore, 1) := by decide +kernel
theorem dX13_childOn_29 : decode cX13_childOn 29 = .ok (.aload_n 0, 1) := by decide +kernel
theorem dX13_childOn_30 : decode cX13_childOn 30 = .ok (.getfield 171, 3) := by decide +kernel
theorem dX13_childOn_33 : decode cX13_childOn 33 = .ok (.iload_n 3, 1) := by decide +kernel
theorem dX13_childOn_34 : decode cX13_childOn 34 = .ok (.aload_n 0, 1) := by decide +kernel
theorem dX13_childOn_35 : decode cX13_childOn 35 = .ok (.iload_n 2, 1) := by decide +kernel
theorem dX13_childOn_36 : decode cX13_childOn 36 = .ok (.iconst 1, 1) := by decide +kernel
theorem dX13_childOn_37 : decode cX13_childOn 37 = .ok (.iadd, 1) := by decide +kernel
theorem dX13_childOn_38 : decode cX13_childOn 38 = .ok (.invokevirtual 619, 3) := by decide +kernel
theorem dX13_childOn_41 : decode cX13_childOn 41 = .ok (.iastore, 1) := by decide +kernel
theorem dX13_childOn_42 : decode cX13_childOn 42 = .ok (.aload_n 0, 1) := by decide +kernel
theorem dX13_childOn_43 : decode cX13_childOn 43 = .ok (.getfield 174, 3) := by decide +kernel
theorem dX13_childOn_46 : decode cX13_childOn 46 = .ok (.iload_n 3, 1) := by decide +kernel
theorem dX13_childOn_47 : decode cX13_childOn 47 = .ok (.iload 4, 2) := by decide +kernel
theorem dX13_childOn_49 : decode cX13_childOn 49 = .ok (.iastore, 1) := by decide +kernel
theorem dX13_childOn_50 : decode cX13_childOn 50 = .ok (.aload_n 0, 1) := by decide +kernel
theorem dX13_childOn_51 : decode cX13_childOn 51 = .ok (.getfield 177, 3) := by decide +kernel
theorem dX13_childOn_54 : decode cX13_childOn 54 = .ok (.iload_n 3, 1) := by decide +kernel
theorem dX13_childOn_55 : decode cX13_childOn 55 = .ok (.aload_n 0, 1) := by decide +kernel
theorem dX13_childOn_56 : decode cX13_childOn 56 = .ok (.getfield 7, 3) := by decide +kernel
theorem dX13_childOn_59 : decode cX13_childOn 59 = .ok (.iload_n 2, 1) := by decide +kernel
theorem dX13_childOn_60 : decode cX13_childOn 60 = .ok (.iconst 4, 1) := by decide +kernel
theorem dX13_childOn_61 : decode cX13_childOn 61 = .ok (.iadd, 1) := by decide +kernel
theorem dX13_childOn_62 : decode cX13_childOn 62 = .ok (.iaload, 1) := by decide +kernel
theorem dX13_childOn_63 : decode cX13_childOn 63 = .ok (.iastore, 1) := by decide +kernel
theorem dX13_childOn_64 : decode cX13_childOn 64 = .ok (.aload_n 0, 1) := by decide +kernel
theorem dX13_childOn_65 : decode cX13_childOn 65 = .ok (.getfield 180, 3) := by decide +kernel
theorem dX13_childOn_68 : decode cX13_childOn 68 = .ok (.iload_n 3, 1) := by decide +kernel
theorem dX13_childOn_69 : decode cX13_childOn 69 = .ok (.aload_n 0, 1) := by decide +kernel
theorem dX13_childOn_70 : decode cX13_childOn 70 = .ok (.getfield 7, 3) := by decide +kernel
theorem dX13_childOn_73 : decode cX13_childOn 73 = .ok (.iload_n 2, 1) := by decide +kernel
theorem dX13_childOn_74 : decode cX13_childOn 74 = .ok (.iconst 5, 1) := by decide +kernel
theorem dX13_childOn_75 : decode cX13_childOn 75 = .ok (.iadd, 1) := by decide +kernel
theorem dX13_childOn_76 : decode cX13_childOn 76 = .ok (.iaload, 1) := by decide +kernel
theorem dX13_childOn_77 : decode cX13_childOn 77 = .ok (.iastore, 1) := by decide +kernel
theorem dX13_childOn_78 : decode cX13_childOn 78 = .ok (.aload_n 0, 1) := by decide +kernel
theorem dX13_childOn_79 : decode cX13_childOn 79 = .ok (.aload_n 0, 1) := by decide +kernel
theorem dX13_childOn_80 : decode cX13_childOn 80 = .ok (.getfield 7, 3) := by decide +kernel
theorem dX13_childOn_83 : decode cX13_childOn 83 = .ok (.iload_n 2, 1) := by decide +kernel
theorem dX13_childOn_84 : decode cX13_childOn 84 = .ok (.iaload, 1) := by decide +kernel
theorem dX13_childOn_85 : decode cX13_childOn 85 = .ok (.invokevirtual 588, 3) := by decide +kernel
theorem dX13_childOn_88 : decode cX13_childOn 88 = .ok (.ifCond .eq 16, 3) := by decide +kernel
theorem dX13_childOn_91 : decode cX13_childOn 91 = .ok (.aload_n 0, 1) := by decide +kernel
theorem dX13_childOn_92 : decode cX13_childOn 92 = .ok (.iload_n 2, 1) := by decide +kernel
theorem dX13_childOn_93 : decode cX13_childOn 93 = .ok (.iconst 1, 1) := by decide +kernel
theorem dX13_childOn_94 : decode cX13_childOn 94 = .ok (.iadd, 1) := by decide +kernel
theorem dX13_childOn_95 : decode cX13_childOn 95 = .ok (.invokevirtual 619, 3) := by decide +kernel
theorem dX13_childOn_98 : decode cX13_childOn 98 = .ok (.sipush 999, 3) := by decide +kernel
theorem dX13_childOn_101 : decode cX13_childOn 101 = .ok (.if_icmp .le 5, 3) := by decide +kernel
theorem dX13_childOn_104 : decode cX13_childOn 104 = .ok (.iconst 0, 1) := by decide +kernel
theorem dX13_childOn_105 : decode cX13_childOn 105 = .ok (.ireturn, 1) := by decide +kernel
theorem dX13_childOn_106 : decode cX13_childOn 106 = .ok (.iload 4, 2) := by decide +kernel
theorem dX13_childOn_108 : decode cX13_childOn 108 = .ok (.iconst (-1), 1) := by decide +kernel
theorem dX13_childOn_109 : decode cX13_childOn 109 = .ok (.if_icmp .ne 31, 3) := by decide +kernel
theorem dX13_childOn_112 : decode cX13_childOn 112 = .ok (.aload_n 0, 1) := by decide +kernel
theorem dX13_childOn_113 : decode cX13_childOn 113 = .ok (.getfield 7, 3) := by decide +kernel
theorem dX13_childOn_116 : decode cX13_childOn 116 = .ok (.iload_n 2, 1) := by decide +kernel
theorem dX13_childOn_117 : decode cX13_childOn 117 = .ok (.iconst 4, 1) := by decide +kernel
theorem dX13_childOn_118 : decode cX13_childOn 118 = .ok (.iadd, 1) := by decide +kernel
theorem dX13_childOn_119 : decode cX13_childOn 119 = .ok (.iaload, 1) := by decide +kernel
theorem dX13_childOn_120 : decode cX13_childOn 120 = .ok (.ifCond .ne 18, 3) := by decide +kernel
theorem dX13_childOn_123 : decode cX13_childOn 123 = .ok (.aload_n 0, 1) := by decide +kernel
theorem dX13_childOn_124 : decode cX13_childOn 124 = .ok (.getfield 7, 3) := by decide +kernel
theorem dX13_childOn_127 : decode cX13_childOn 127 = .ok (.iload_n 2, 1) := by decide +kernel
theorem dX13_childOn_128 : decode cX13_childOn 128 = .ok (.iconst 5, 1) := by decide +kernel
theorem dX13_childOn_129 : decode cX13_childOn 129 = .ok (.iadd, 1) := by decide +kernel
theorem dX13_childOn_130 : decode cX13_childOn 130 = .ok (.iaload, 1) := by decide +kernel
theorem dX13_childOn_131 : decode cX13_childOn 131 = .ok (.ifCond .ne 7, 3) := by decide +kernel
theorem dX13_childOn_134 : decode cX13_childOn 134 = .ok (.iconst 1, 1) := by decide +kernel
theorem dX13_childOn_135 : decode cX13_childOn 135 = .ok (.goto 4, 3) := by decide +kernel
theorem dX13_childOn_138 : decode cX13_childOn 138 = .ok (.iconst 0, 1) := by decide +kernel
theorem dX13_childOn_139 : decode cX13_childOn 139 = .ok (.ireturn, 1) := by decide +kernel
theorem dX13_childOn_140 : decode cX13_childOn 140 = .ok (.aload_n 0, 1) := by decide +kernel
theorem dX13_childOn_141 : decode cX13_childOn 141 = .ok (.iload 4, 2) := by decide +kernel
theorem dX13_childOn_143 : decode cX13_childOn 143 = .ok (.invokevirtual 594, 3) := by decide +kernel
theorem dX13_childOn_146 : decode cX13_childOn 146 = .ok (.ifCond .eq 12, 3) := by decide +kernel
theorem dX13_childOn_149 : decode cX13_childOn 149 = .ok (.aload_n 0, 1) := by decide +kernel
theorem dX13_childOn_150 : decode cX13_childOn 150 = .ok (.iconst 2, 1) := by decide +kernel
theorem dX13_childOn_151 : decode cX13_childOn 151 = .ok (.iload_n 1, 1) := by decide +kernel
theorem dX13_childOn_152 : decode cX13_childOn 152 = .ok (.invokevirtual 504, 3) := by decide +kernel
theorem dX13_childOn_155 : decode cX13_childOn 155 = .ok (.ifCond .ne 5, 3) := by decide +kernel
theorem dX13_childOn_158 : decode cX13_childOn 158 = .ok (.iconst 0, 1) := by decide +kernel
theorem dX13_childOn_159 : decode cX13_childOn 159 = .ok (.ireturn, 1) := by decide +kernel
theorem dX13_childOn_160 : decode cX13_childOn 160 = .ok (.aload_n 0, 1) := by decide +kernel
theorem dX13_childOn_161 : decode cX13_childOn 161 = .ok (.getfield 7, 3) := by decide +kernel
theorem dX13_childOn_164 : decode cX13_childOn 164 = .ok (.iload_n 2, 1) := by decide +kernel
theorem dX13_childOn_165 : decode cX13_childOn 165 = .ok (.iconst 4, 1) := by decide +kernel
theorem dX13_childOn_166 : decode cX13_childOn 166 = .ok (.iadd, 1) := by decide +kernel
theorem dX13_childOn_167 : decode cX13_childOn 167 = .ok (.iaload, 1) := by decide +kernel
theorem dX13_childOn_168 : decode cX13_childOn 168 = .ok (.aload_n 0, 1) := by decide +kernel
theorem dX13_childOn_169 : decode cX13_childOn 169 = .ok (.getfield 87, 3) := by decide +kernel
theorem dX13_childOn_172 : decode cX13_childOn 172 = .ok (.iconst 4, 1) := by decide +kernel
theorem dX13_childOn_173 : decode cX13_childOn 173 = .ok (.aload_n 0, 1) := by decide +kernel
theorem dX13_childOn_174 : decode cX13_childOn 174 = .ok (.getfield 51, 3) := by decide +kernel
theorem dX13_childOn_177 : decode cX13_childOn 177 = .ok (.imul, 1) := by decide +kernel
theorem dX13_childOn_178 : decode cX13_childOn 178 = .ok (.iload 4, 2) := by decide +kernel
theorem dX13_childOn_180 : decode cX13_childOn 180 = .ok (.iadd, 1) := by decide +kernel
theorem dX13_childOn_181 : decode cX13_childOn 181 = .ok (.iaload, 1) := by decide +kernel
theorem dX13_childOn_182 : decode cX13_childOn 182 = .ok (.if_icmp .ge 32, 3) := by decide +kernel
theorem dX13_childOn_185 : decode cX13_childOn 185 = .ok (.aload_n 0, 1) := by decide +kernel
theorem dX13_childOn_186 : decode cX13_childOn 186 = .ok (.getfield 7, 3) := by decide +kernel
theorem dX13_childOn_189 : decode cX13_childOn 189 = .ok (.iload_n 2, 1) := by decide +kernel
theorem dX13_childOn_190 : decode cX13_childOn 190 = .ok (.iconst 5, 1) := by decide +kernel
theorem dX13_childOn_191 : decode cX13_childOn 191 = .ok (.iadd, 1) := by decide +kernel
theorem dX13_childOn_192 : decode cX13_childOn 192 = .ok (.iaload, 1) := by decide +kernel
theorem dX13_childOn_193 : decode cX13_childOn 193 = .ok (.aload_n 0, 1) := by decide +kernel
theorem dX13_childOn_194 : decode cX13_childOn 194 = .ok (.getfield 90, 3) := by decide +kernel
theorem dX13_childOn_197 : decode cX13_childOn 197 = .ok (.iconst 4, 1) := by decide +kernel
theorem dX13_childOn_198 : decode cX13_childOn 198 = .ok (.aload_n 0, 1) := by decide +kernel
theorem dX13_childOn_199 : decode cX13_childOn 199 = .ok (.getfield 51, 3) := by decide +kernel
theorem dX13_childOn_202 : decode cX13_childOn 202 = .ok (.imul, 1) := by decide +kernel
theorem dX13_childOn_203 : decode cX13_childOn 203 = .ok (.iload 4, 2) := by decide +kernel
theorem dX13_childOn_205 : decode cX13_childOn 205 = .ok (.iadd, 1) := by decide +kernel
theorem dX13_childOn_206 : decode cX13_childOn 206 = .ok (.iaload, 1) := by decide +kernel
theorem dX13_childOn_207 : decode cX13_childOn 207 = .ok (.if_icmp .ge 7, 3) := by decide +kernel
theorem dX13_childOn_210 : decode cX13_childOn 210 = .ok (.iconst 1, 1) := by decide +kernel
theorem dX13_childOn_211 : decode cX13_childOn 211 = .ok (.goto 4, 3) := by decide +kernel
theorem dX13_childOn_214 : decode cX13_childOn 214 = .ok (.iconst 0, 1) := by decide +kernel
theorem dX13_childOn_215 : decode cX13_childOn 215 = .ok (.ireturn, 1) := by decide +kernel
theorem dX13_areLaid_0 : decode cX13_areLaid 0 = .ok (.iconst 0, 1) := by decide +kernel
theorem dX13_areLaid_1 : decode cX13_areLaid 1 = .ok (.istore_n 1, 1) := by decide +kernel
theorem dX13_areLaid_2 : decode cX13_areLaid 2 = .ok (.iload_n 1, 1) := by decide +kernel
theorem dX13_areLaid_3 : decode cX13_areLaid 3 = .ok (.aload_n 0, 1) := by decide +kernel
theorem dX13_areLaid_4 : decode cX13_areLaid 4 = .ok (.getfield 63, 3) := by decide +kernel
theorem dX13_areLaid_7 : decode cX13_areLaid 7 = .ok (.aload_n 0, 1) := by decide +kernel
theorem dX13_areLaid_8 : decode cX13_areLaid 8 = .ok (.getfield 51, 3) := by decide +kernel
theorem dX13_areLaid_11 : decode cX13_areLaid 11 = .ok (.iaload, 1) := by decide +kernel
theorem dX13_areLaid_12 : decode cX13_areLaid 12 = .ok (.if_icmp .ge 83, 3) := by decide +kernel
theorem dX13_areLaid_15 : decode cX13_areLaid 15 = .ok (.aload_n 0, 1) := by decide +kernel
theorem dX13_areLaid_16 : decode cX13_areLaid 16 = .ok (.iconst 2, 1) := by decide +kernel
theorem dX13_areLaid_17 : decode cX13_areLaid 17 = .ok (.iload_n 1, 1) := by decide +kernel
theorem dX13_areLaid_18 : decode cX13_areLaid 18 = .ok (.invokevirtual 507, 3) := by decide +kernel
theorem dX13_areLaid_21 : decode cX13_areLaid 21 = .ok (.istore_n 2, 1) := by decide +kernel
theorem dX13_areLaid_22 : decode cX13_areLaid 22 = .ok (.iload_n 2, 1) := by decide +kernel
theorem dX13_areLaid_23 : decode cX13_areLaid 23 = .ok (.iconst (-1), 1) := by decide +kernel
theorem dX13_areLaid_24 : decode cX13_areLaid 24 = .ok (.if_icmp .ne 6, 3) := by decide +kernel
theorem dX13_areLaid_27 : decode cX13_areLaid 27 = .ok (.goto 62, 3) := by decide +kernel
theorem dX13_areLaid_30 : decode cX13_areLaid 30 = .ok (.aload_n 0, 1) := by decide +kernel
theorem dX13_areLaid_31 : decode cX13_areLaid 31 = .ok (.iconst 2, 1) := by decide +kernel
theorem dX13_areLaid_32 : decode cX13_areLaid 32 = .ok (.iload_n 2, 1) := by decide +kernel
theorem dX13_areLaid_33 : decode cX13_areLaid 33 = .ok (.aload_n 0, 1) := by decide +kernel
theorem dX13_areLaid_34 : decode cX13_areLaid 34 = .ok (.iconst 2, 1) := by decide +kernel
theorem dX13_areLaid_35 : decode cX13_areLaid 35 = .ok (.iload_n 1, 1) := by decide +kernel
theorem dX13_areLaid_36 : decode cX13_areLaid 36 = .ok (.invokevirtual 510, 3) := by decide +kernel
theorem dX13_areLaid_39 : decode cX13_areLaid 39 = .ok (.aload_n 0, 1) := by decide +kernel
theorem dX13_areLaid_40 : decode cX13_areLaid 40 = .ok (.iconst 2, 1) := by decide +kernel
theorem dX13_areLaid_41 : decode cX13_areLaid 41 = .ok (.iload_n 1, 1) := by decide +kernel
theorem dX13_areLaid_42 : decode cX13_areLaid 42 = .ok (.invokevirtual 513, 3) := by decide +kernel
theorem dX13_areLaid_45 : decode cX13_areLaid 45 = .ok (.invokevirtual 534, 3) := by decide +kernel
theorem dX13_areLaid_48 : decode cX13_areLaid 48 = .ok (.iload_n 1, 1) := by decide +kernel
theorem dX13_areLaid_49 : decode cX13_areLaid 49 = .ok (.if_icmp .eq 5, 3) := by decide +kernel
theorem dX13_areLaid_52 : decode cX13_areLaid 52 = .ok (.iconst 0, 1) := by decide +kernel
theorem dX13_areLaid_53 : decode cX13_areLaid 53 = .ok (.ireturn, 1) := by decide +kernel
theorem dX13_areLaid_54 : decode cX13_areLaid 54 = .ok (.aload_n 0, 1) := by decide +kernel
theorem dX13_areLaid_55 : decode cX13_areLaid 55 = .ok (.iconst 2, 1) := by decide +kernel
theorem dX13_areLaid_56 : decode cX13_areLaid 56 = .ok (.iload_n 1, 1) := by decide +kernel
theorem dX13_areLaid_57 : decode cX13_areLaid 57 = .ok (.invokevirtual 513, 3) := by decide +kernel
theorem dX13_areLaid_60 : decode cX13_areLaid 60 = .ok (.ifCond .le 29, 3) := by decide +kernel
theorem dX13_areLaid_63 : decode cX13_areLaid 63 = .ok (.aload_n 0, 1) := by decide +kernel
theorem dX13_areLaid_64 : decode cX13_areLaid 64 = .ok (.iconst 2, 1) := by decide +kernel
theorem dX13_areLaid_65 : decode cX13_areLaid 65 = .ok (.iload_n 2, 1) := by decide +kernel
theorem dX13_areLaid_66 : decode cX13_areLaid 66 = .ok (.aload_n 0, 1) := by decide +kernel
theorem dX13_areLaid_67 : decode cX13_areLaid 67 = .ok (.iconst 2, 1) := by decide +kernel
theorem dX13_areLaid_68 : decode cX13_areLaid 68 = .ok (.iload_n 1, 1) := by decide +kernel
theorem dX13_areLaid_69 : decode cX13_areLaid 69 = .ok (.invokevirtual 510, 3) := by decide +kernel
theorem dX13_areLaid_72 : decode cX13_areLaid 72 = .ok (.aload_n 0, 1) := by decide +kernel
theorem dX13_areLaid_73 : decode cX13_areLaid 73 = .ok (.iconst 2, 1) := by decide +kernel
theorem dX13_areLaid_74 : decode cX13_areLaid 74 = .ok (.iload_n 1, 1) := by decide +kernel
theorem dX13_areLaid_75 : decode cX13_areLaid 75 = .ok (.invokevirtual 513, 3) := by decide +kernel
theorem dX13_areLaid_78 : decode cX13_areLaid 78 = .ok (.iconst 1, 1) := by decide +kernel
theorem dX13_areLaid_79 : decode cX13_areLaid 79 = .ok (.isub, 1) := by decide +kernel
theorem dX13_areLaid_80 : decode cX13_areLaid 80 = .ok (.invokevirtual 534, 3) := by decide +kernel
theorem dX13_areLaid_83 : decode cX13_areLaid 83 = .ok (.iconst (-1), 1) := by decide +kernel
theorem dX13_areLaid_84 : decode cX13_areLaid 84 = .ok (.if_icmp .ne 5, 3) := by decide +kernel
theorem dX13_areLaid_87 : decode cX13_areLaid 87 = .ok (.iconst 0, 1) := by decide +kernel
theorem dX13_areLaid_88 : decode cX13_areLaid 88 = .ok (.ireturn, 1) := by decide +kernel
theorem dX13_areLaid_89 : decode cX13_areLaid 89 = .ok (.iinc 1 1, 3) := by decide +kernel
theorem dX13_areLaid_92 : decode cX13_areLaid 92 = .ok (.goto (-90), 3) := by decide +kernel
theorem dX13_areLaid_95 : decode cX13_areLaid 95 = .ok (.iconst 1, 1) := by decide +kernel
theorem dX13_areLaid_96 : decode cX13_areLaid 96 = .ok (.ireturn, 1) := by decide +kernel
theorem dX13_comesOn_0 : decode cX13_comesOn 0 = .ok (.iconst 2, 1) := by decide +kernel
theorem dX13_comesOn_1 : decode cX13_comesOn 1 = .ok (.bipush 6, 2) := by decide +kernel
theorem dX13_comesOn_3 : decode cX13_comesOn 3 = .ok (.aload_n 0, 1) := by decide +kernel
theorem dX13_comesOn_4 : decode cX13_comesOn 4 = .ok (.getfield 63, 3) := by decide +kernel
theorem dX13_comesOn_7 : decode cX13_comesOn 7 = .ok (.aload_n 0, 1) := by decide +kernel
theorem dX13_comesOn_8 : decode cX13_comesOn 8 = .ok (.getfield 51, 3) := by decide +kernel
theorem dX13_comesOn_11 : decode cX13_comesOn 11 = .ok (.iaload, 1) := by decide +kernel
theorem dX13_comesOn_12 : decode cX13_comesOn 12 = .ok (.imul, 1) := by decide +kernel
theorem dX13_comesOn_13 : decode cX13_comesOn 13 = .ok (.iadd, 1) := by decide +kernel
theorem dX13_comesOn_14 : decode cX13_comesOn 14 = .ok (.istore_n 2, 1) := by decide +kernel
theorem dX13_comesOn_15 : decode cX13_comesOn 15 = .ok (.iload_n 1, 1) := by decide +kernel
theorem dX13_comesOn_16 : decode cX13_comesOn 16 = .ok (.iload_n 2, 1) := by decide +kernel
theorem dX13_comesOn_17 : decode cX13_comesOn 17 = .ok (.aload_n 0, 1) := by decide +kernel
theorem dX13_comesOn_18 : decode cX13_comesOn 18 = .ok (.getfield 75, 3) := by decide +kernel
theorem dX13_comesOn_21 : decode cX13_comesOn 21 = .ok (.aload_n 0, 1) := by decide +kernel
theorem dX13_comesOn_22 : decode cX13_comesOn 22 = .ok (.getfield 51, 3) := by decide +kernel
theorem dX13_comesOn_25 : decode cX13_comesOn 25 = .ok (.iaload, 1) := by decide +kernel
theorem dX13_comesOn_26 : decode cX13_comesOn 26 = .ok (.iadd, 1) := by decide +kernel
theorem dX13_comesOn_27 : decode cX13_comesOn 27 = .ok (.iconst 1, 1) := by decide +kernel
theorem dX13_comesOn_28 : decode cX13_comesOn 28 = .ok (.iadd, 1) := by decide +kernel
theorem dX13_comesOn_29 : decode cX13_comesOn 29 = .ok (.if_icmp .ne 14, 3) := by decide +kernel
theorem dX13_comesOn_32 : decode cX13_comesOn 32 = .ok (.aload_n 0, 1) := by decide +kernel
theorem dX13_comesOn_33 : decode cX13_comesOn 33 = .ok (.iconst 0, 1) := by decide +kernel
theorem dX13_comesOn_34 : decode cX13_comesOn 34 = .ok (.invokevirtual 619, 3) := by decide +kernel
theorem dX13_comesOn_37 : decode cX13_comesOn 37 = .ok (.sipush 999, 3) := by decide +kernel
theorem dX13_comesOn_40 : decode cX13_comesOn 40 = .ok (.if_icmp .le 5, 3) := by decide +kernel
theorem dX13_comesOn_43 : decode cX13_comesOn 43 = .ok (.iconst 0, 1) := by decide +kernel
theorem dX13_comesOn_44 : decode cX13_comesOn 44 = .ok (.ireturn, 1) := by decide +kernel
theorem dX13_comesOn_45 : decode cX13_comesOn 45 = .ok (.sipush 167, 3) := by decide +kernel
theorem dX13_comesOn_48 : decode cX13_comesOn 48 = .ok (.istore_n 3, 1) := by decide +kernel
theorem dX13_comesOn_49 : decode cX13_comesOn 49 = .ok (.iconst 0, 1) := by decide +kernel
theorem dX13_comesOn_50 : decode cX13_comesOn 50 = .ok (.istore 4, 2) := by decide +kernel
theorem dX13_comesOn_52 : decode cX13_comesOn 52 = .ok (.iload 4, 2) := by decide +kernel
theorem dX13_comesOn_54 : decode cX13_comesOn 54 = .ok (.iload_n 1, 1) := by decide +kernel
theorem dX13_comesOn_55 : decode cX13_comesOn 55 = .ok (.iconst 1, 1) := by decide +kernel
theorem dX13_comesOn_56 : decode cX13_comesOn 56 = .ok (.isub, 1) := by decide +kernel
theorem dX13_comesOn_57 : decode cX13_comesOn 57 = .ok (.if_icmp .ge 25, 3) := by decide +kernel
theorem dX13_comesOn_60 : decode cX13_comesOn 60 = .ok (.iconst 5, 1) := by decide +kernel
theorem dX13_comesOn_61 : decode cX13_comesOn 61 = .ok (.iload_n 3, 1) := by decide +kernel
theorem dX13_comesOn_62 : decode cX13_comesOn 62 = .ok (.imul, 1) := by decide +kernel
theorem dX13_comesOn_63 : decode cX13_comesOn 63 = .ok (.aload_n 0, 1) := by decide +kernel
theorem dX13_comesOn_64 : decode cX13_comesOn 64 = .ok (.getfield 7, 3) := by decide +kernel
theorem dX13_comesOn_67 : decode cX13_comesOn 67 = .ok (.iload 4, 2) := by decide +kernel
theorem dX13_comesOn_69 : decode cX13_comesOn 69 = .ok (.iaload, 1) := by decide +kernel
theorem dX13_comesOn_70 : decode cX13_comesOn 70 = .ok (.iadd, 1) := by decide +kernel
theorem dX13_comesOn_71 : decode cX13_comesOn 71 = .ok (.sipush 251, 3) := by decide +kernel
theorem dX13_comesOn_74 : decode cX13_comesOn 74 = .ok (.irem, 1) := by decide +kernel
theorem dX13_comesOn_75 : decode cX13_comesOn 75 = .ok (.istore_n 3, 1) := by decide +kernel
theorem dX13_comesOn_76 : decode cX13_comesOn 76 = .ok (.iinc 4 1, 3) := by decide +kernel
theorem dX13_comesOn_79 : decode cX13_comesOn 79 = .ok (.goto (-27), 3) := by decide +kernel
theorem dX13_comesOn_82 : decode cX13_comesOn 82 = .ok (.aload_n 0, 1) := by decide +kernel
theorem dX13_comesOn_83 : decode cX13_comesOn 83 = .ok (.getfield 7, 3) := by decide +kernel
theorem dX13_comesOn_86 : decode cX13_comesOn 86 = .ok (.iload_n 1, 1) := by decide +kernel
theorem dX13_comesOn_87 : decode cX13_comesOn 87 = .ok (.iconst 1, 1) := by decide +kernel
theorem dX13_comesOn_88 : decode cX13_comesOn 88 = .ok (.isub, 1) := by decide +kernel
theorem dX13_comesOn_89 : decode cX13_comesOn 89 = .ok (.iaload, 1) := by decide +kernel
theorem dX13_comesOn_90 : decode cX13_comesOn 90 = .ok (.iload_n 3, 1) := by decide +kernel
theorem dX13_comesOn_91 : decode cX13_comesOn 91 = .ok (.if_icmp .eq 5, 3) := by decide +kernel
theorem dX13_comesOn_94 : decode cX13_comesOn 94 = .ok (.iconst 0, 1) := by decide +kernel
theorem dX13_comesOn_95 : decode cX13_comesOn 95 = .ok (.ireturn, 1) := by decide +kernel
theorem dX13_comesOn_96 : decode cX13_comesOn 96 = .ok (.aload_n 0, 1) := by decide +kernel
theorem dX13_comesOn_97 : decode cX13_comesOn 97 = .ok (.iconst 2, 1) := by decide +kernel
theorem dX13_comesOn_98 : decode cX13_comesOn 98 = .ok (.iconst 0, 1) := by decide +kernel
theorem dX13_comesOn_99 : decode cX13_comesOn 99 = .ok (.invokevirtual 461, 3) := by decide +kernel
theorem dX13_comesOn_102 : decode cX13_comesOn 102 = .ok (.aload_n 0, 1) := by decide +kernel
theorem dX13_comesOn_103 : decode cX13_comesOn 103 = .ok (.getfield 162, 3) := by decide +kernel
theorem dX13_comesOn_106 : decode cX13_comesOn 106 = .ok (.iconst 2, 1) := by decide +kernel
theorem dX13_comesOn_107 : decode cX13_comesOn 107 = .ok (.aload_n 0, 1) := by decide +kernel
theorem dX13_comesOn_108 : decode cX13_comesOn 108 = .ok (.iconst 0, 1) := by decide +kernel
theorem dX13_comesOn_109 : decode cX13_comesOn 109 = .ok (.invokevirtual 619, 3) := by decide +kernel
theorem dX13_comesOn_112 : decode cX13_comesOn 112 = .ok (.iastore, 1) := by decide +kernel
theorem dX13_comesOn_113 : decode cX13_comesOn 113 = .ok (.aload_n 0, 1) := by decide +kernel
theorem dX13_comesOn_114 : decode cX13_comesOn 114 = .ok (.getfield 165, 3) := by decide +kernel
theorem dX13_comesOn_117 : decode cX13_comesOn 117 = .ok (.iconst 2, 1) := by decide +kernel
theorem dX13_comesOn_118 : decode cX13_comesOn 118 = .ok (.iconst 0, 1) := by decide +kernel
theorem dX13_comesOn_119 : decode cX13_comesOn 119 = .ok (.iastore, 1) := by decide +kernel
theorem dX13_comesOn_120 : decode cX13_comesOn 120 = .ok (.aload_n 0, 1) := by decide +kernel
theorem dX13_comesOn_121 : decode cX13_comesOn 121 = .ok (.getfield 183, 3) := by decide +kernel
theorem dX13_comesOn_124 : decode cX13_comesOn 124 = .ok (.iconst 2, 1) := by decide +kernel
theorem dX13_comesOn_125 : decode cX13_comesOn 125 = .ok (.iconst 0, 1) := by decide +kernel
theorem dX13_comesOn_126 : decode cX13_comesOn 126 = .ok (.iastore, 1) := by decide +kernel
theorem dX13_comesOn_127 : decode cX13_comesOn 127 = .ok (.iconst 0, 1) := by decide +kernel
theorem dX13_comesOn_128 : decode cX13_comesOn 128 = .ok (.istore 4, 2) := by decide +kernel
theorem dX13_comesOn_130 : decode cX13_comesOn 130 = .ok (.iload 4, 2) := by decide +kernel
theorem dX13_comesOn_132 : decode cX13_comesOn 132 = .ok (.aload_n 0, 1) := by decide +kernel
theorem dX13_comesOn_133 : decode cX13_comesOn 133 = .ok (.getfield 63, 3) := by decide +kernel
theorem dX13_comesOn_136 : decode cX13_comesOn 136 = .ok (.aload_n 0, 1) := by decide +kernel
theorem dX13_comesOn_137 : decode cX13_comesOn 137 = .ok (.getfield 51, 3) := by decide +kernel
theorem dX13_comesOn_140 : decode cX13_comesOn 140 = .ok (.iaload, 1) := by decide +kernel
theorem dX13_comesOn_141 : decode cX13_comesOn 141 = .ok (.if_icmp .ge 27, 3) := by decide +kernel
theorem dX13_comesOn_144 : decode cX13_comesOn 144 = .ok (.aload_n 0, 1) := by decide +kernel
theorem dX13_comesOn_145 : decode cX13_comesOn 145 = .ok (.iload 4, 2) := by decide +kernel
theorem dX13_comesOn_147 : decode cX13_comesOn 147 = .ok (.iconst 2, 1) := by decide +kernel
theorem dX13_comesOn_148 : decode cX13_comesOn 148 = .ok (.bipush 6, 2) := by decide +kernel
theorem dX13_comesOn_150 : decode cX13_comesOn 150 = .ok (.iload 4, 2) := by decide +kernel
theorem dX13_comesOn_152 : decode cX13_comesOn 152 = .ok (.imul, 1) := by decide +kernel
theorem dX13_comesOn_153 : decode cX13_comesOn 153 = .ok (.iadd, 1) := by decide +kernel
theorem dX13_comesOn_154 : decode cX13_comesOn 154 = .ok (.invokevirtual 649, 3) := by decide +kernel
theorem dX13_comesOn_157 : decode cX13_comesOn 157 = .ok (.ifCond .ne 5, 3) := by decide +kernel
theorem dX13_comesOn_160 : decode cX13_comesOn 160 = .ok (.iconst 0, 1) := by decide +kernel
theorem dX13_comesOn_161 : decode cX13_comesOn 161 = .ok (.ireturn, 1) := by decide +kernel
theorem dX13_comesOn_162 : decode cX13_comesOn 162 = .ok (.iinc 4 1, 3) := by decide +kernel
theorem dX13_comesOn_165 : decode cX13_comesOn 165 = .ok (.goto (-35), 3) := by decide +kernel
theorem dX13_comesOn_168 : decode cX13_comesOn 168 = .ok (.iconst 0, 1) := by decide +kernel
theorem dX13_comesOn_169 : decode cX13_comesOn 169 = .ok (.istore 4, 2) := by decide +kernel
theorem dX13_comesOn_171 : decode cX13_comesOn 171 = .ok (.iload 4, 2) := by decide +kernel
theorem dX13_comesOn_173 : decode cX13_comesOn 173 = .ok (.aload_n 0, 1) := by decide +kernel
theorem dX13_comesOn_174 : decode cX13_comesOn 174 = .ok (.getfield 75, 3) := by decide +kernel
theorem dX13_comesOn_177 : decode cX13_comesOn 177 = .ok (.aload_n 0, 1) := by decide +kernel
theorem dX13_comesOn_178 : decode cX13_comesOn 178 = .ok (.getfield 51, 3) := by decide +kernel
theorem dX13_comesOn_181 : decode cX13_comesOn 181 = .ok (.iaload, 1) := by decide +kernel
theorem dX13_comesOn_182 : decode cX13_comesOn 182 = .ok (.if_icmp .ge 45, 3) := by decide +kernel
theorem dX13_comesOn_185 : decode cX13_comesOn 185 = .ok (.aload_n 0, 1) := by decide +kernel
theorem dX13_comesOn_186 : decode cX13_comesOn 186 = .ok (.getfield 7, 3) := by decide +kernel
theorem dX13_comesOn_189 : decode cX13_comesOn 189 = .ok (.iload_n 2, 1) := by decide +kernel
theorem dX13_comesOn_190 : decode cX13_comesOn 190 = .ok (.iload 4, 2) := by decide +kernel
theorem dX13_comesOn_192 : decode cX13_comesOn 192 = .ok (.iadd, 1) := by decide +kernel
theorem dX13_comesOn_193 : decode cX13_comesOn 193 = .ok (.iaload, 1) := by decide +kernel
theorem dX13_comesOn_194 : decode cX13_comesOn 194 = .ok (.iconst 1, 1) := by decide +kernel
theorem dX13_comesOn_195 : decode cX13_comesOn 195 = .ok (.if_icmp .le 5, 3) := by decide +kernel
theorem dX13_comesOn_198 : decode cX13_comesOn 198 = .ok (.iconst 0, 1) := by decide +kernel
theorem dX13_comesOn_199 : decode cX13_comesOn 199 = .ok (.ireturn, 1) := by decide +kernel
theorem dX13_comesOn_200 : decode cX13_comesOn 200 = .ok (.aload_n 0, 1) := by decide +kernel
theorem dX13_comesOn_201 : decode cX13_comesOn 201 = .ok (.getfield 165, 3) := by decide +kernel
theorem dX13_comesOn_204 : decode cX13_comesOn 204 = .ok (.iconst 2, 1) := by decide +kernel
theorem dX13_comesOn_205 : decode cX13_comesOn 205 = .ok (.dup2, 1) := by decide +kernel
theorem dX13_comesOn_206 : decode cX13_comesOn 206 = .ok (.iaload, 1) := by decide +kernel
theorem dX13_comesOn_207 : decode cX13_comesOn 207 = .ok (.aload_n 0, 1) := by decide +kernel
theorem dX13_comesOn_208 : decode cX13_comesOn 208 = .ok (.getfield 7, 3) := by decide +kernel
theorem dX13_comesOn_211 : decode cX13_comesOn 211 = .ok (.iload_n 2, 1) := by decide +kernel
theorem dX13_comesOn_212 : decode cX13_comesOn 212 = .ok (.iload 4, 2) := by decide +kernel
theorem dX13_comesOn_214 : decode cX13_comesOn 214 = .ok (.iadd, 1) := by decide +kernel
theorem dX13_comesOn_215 : decode cX13_comesOn 215 = .ok (.iaload, 1) := by decide +kernel
theorem dX13_comesOn_216 : decode cX13_comesOn 216 = .ok (.iload 4, 2) := by decide +kernel
theorem dX13_comesOn_218 : decode cX13_comesOn 218 = .ok (.ishl, 1) := by decide +kernel
theorem dX13_comesOn_219 : decode cX13_comesOn 219 = .ok (.ior, 1) := by decide +kernel
theorem dX13_comesOn_220 : decode cX13_comesOn 220 = .ok (.iastore, 1) := by decide +kernel
theorem dX13_comesOn_221 : decode cX13_comesOn 221 = .ok (.iinc 4 1, 3) := by decide +kernel
theorem dX13_comesOn_224 : decode cX13_comesOn 224 = .ok (.goto (-53), 3) := by decide +kernel
theorem dX13_comesOn_227 : decode cX13_comesOn 227 = .ok (.aload_n 0, 1) := by decide +kernel
theorem dX13_comesOn_228 : decode cX13_comesOn 228 = .ok (.invokevirtual 652, 3) := by decide +kernel
theorem dX13_comesOn_231 : decode cX13_comesOn 231 = .ok (.ireturn, 1) := by decide +kernel
theorem dX13_on_0 : decode cX13_on 0 = .ok (.aload_n 0, 1) := by decide +kernel
theorem dX13_on_1 : decode cX13_on 1 = .ok (.getfield 13, 3) := by decide +kernel
theorem dX13_on_4 : decode cX13_on 4 = .ok (.istore_n 1, 1) := by decide +kernel
theorem dX13_on_5 : decode cX13_on 5 = .ok (.aload_n 0, 1) := by decide +kernel
theorem dX13_on_6 : decode cX13_on 6 = .ok (.iconst 0, 1) := by decide +kernel
theorem dX13_on_7 : decode cX13_on 7 = .ok (.putfield 13, 3) := by decide +kernel
theorem dX13_on_10 : decode cX13_on 10 = .ok (.aload_n 0, 1) := by decide +kernel
theorem dX13_on_11 : decode cX13_on 11 = .ok (.iload_n 1, 1) := by decide +kernel
theorem dX13_on_12 : decode cX13_on 12 = .ok (.invokevirtual 655, 3) := by decide +kernel
theorem dX13_on_15 : decode cX13_on 15 = .ok (.ifCond .ne 17, 3) := by decide +kernel
theorem dX13_on_18 : decode cX13_on 18 = .ok (.aload_n 0, 1) := by decide +kernel
theorem dX13_on_19 : decode cX13_on 19 = .ok (.iconst 5, 1) := by decide +kernel
theorem dX13_on_20 : decode cX13_on 20 = .ok (.invokevirtual 250, 3) := by decide +kernel
theorem dX13_on_23 : decode cX13_on 23 = .ok (.ifCond .lt 7, 3) := by decide +kernel
theorem dX13_on_26 : decode cX13_on 26 = .ok (.iconst 1, 1) := by decide +kernel
theorem dX13_on_27 : decode cX13_on 27 = .ok (.goto 4, 3) := by decide +kernel
theorem dX13_on_30 : decode cX13_on 30 = .ok (.iconst 0, 1) := by decide +kernel
theorem dX13_on_31 : decode cX13_on 31 = .ok (.ireturn, 1) := by decide +kernel
theorem dX13_on_32 : decode cX13_on 32 = .ok (.aload_n 0, 1) := by decide +kernel
theorem dX13_on_33 : decode cX13_on 33 = .ok (.iconst 0, 1) := by decide +kernel
theorem dX13_on_34 : decode cX13_on 34 = .ok (.iconst 2, 1) := by decide +kernel
theorem dX13_on_35 : decode cX13_on 35 = .ok (.invokevirtual 461, 3) := by decide +kernel
theorem dX13_on_38 : decode cX13_on 38 = .ok (.aload_n 0, 1) := by decide +kernel
theorem dX13_on_39 : decode cX13_on 39 = .ok (.iconst 0, 1) := by decide +kernel
theorem dX13_on_40 : decode cX13_on 40 = .ok (.putfield 192, 3) := by decide +kernel
theorem dX13_on_43 : decode cX13_on 43 = .ok (.iconst 1, 1) := by decide +kernel
theorem dX13_on_44 : decode cX13_on 44 = .ok (.ireturn, 1) := by decide +kernel
