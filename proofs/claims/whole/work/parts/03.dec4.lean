theorem dX8_wayTo_107 : decode cX8_wayTo 107 = .ok (.iload_n 2, 1) := by decide +kernel
theorem dX8_wayTo_108 : decode cX8_wayTo 108 = .ok (.if_icmp .ne 6, 3) := by decide +kernel
theorem dX8_wayTo_111 : decode cX8_wayTo 111 = .ok (.iload 5, 2) := by decide +kernel
theorem dX8_wayTo_113 : decode cX8_wayTo 113 = .ok (.ireturn, 1) := by decide +kernel
theorem dX8_wayTo_114 : decode cX8_wayTo 114 = .ok (.aload_n 0, 1) := by decide +kernel
theorem dX8_wayTo_115 : decode cX8_wayTo 115 = .ok (.getfield 22, 3) := by decide +kernel
theorem dX8_wayTo_118 : decode cX8_wayTo 118 = .ok (.iconst 0, 1) := by decide +kernel
theorem dX8_wayTo_119 : decode cX8_wayTo 119 = .ok (.aload_n 0, 1) := by decide +kernel
theorem dX8_wayTo_120 : decode cX8_wayTo 120 = .ok (.getfield 16, 3) := by decide +kernel
theorem dX8_wayTo_123 : decode cX8_wayTo 123 = .ok (.iconst 0, 1) := by decide +kernel
theorem dX8_wayTo_124 : decode cX8_wayTo 124 = .ok (.invokestatic 100, 3) := by decide +kernel
theorem dX8_wayTo_127 : decode cX8_wayTo 127 = .ok (.iinc 4 1, 3) := by decide +kernel
theorem dX8_wayTo_130 : decode cX8_wayTo 130 = .ok (.goto (-89), 3) := by decide +kernel
theorem dX8_way_0 : decode cX8_way 0 = .ok (.aload_n 0, 1) := by decide +kernel
theorem dX8_way_1 : decode cX8_way 1 = .ok (.aload_n 0, 1) := by decide +kernel
theorem dX8_way_2 : decode cX8_way 2 = .ok (.aload_n 0, 1) := by decide +kernel
theorem dX8_way_3 : decode cX8_way 3 = .ok (.lload_n 1, 1) := by decide +kernel
theorem dX8_way_4 : decode cX8_way 4 = .ok (.aload_n 0, 1) := by decide +kernel
theorem dX8_way_5 : decode cX8_way 5 = .ok (.getfield 19, 3) := by decide +kernel
theorem dX8_way_8 : decode cX8_way 8 = .ok (.invokevirtual 217, 3) := by decide +kernel
theorem dX8_way_11 : decode cX8_way 11 = .ok (.ifCond .eq 12, 3) := by decide +kernel
theorem dX8_way_14 : decode cX8_way 14 = .ok (.iload_n 3, 1) := by decide +kernel
theorem dX8_way_15 : decode cX8_way 15 = .ok (.iconst (-1), 1) := by decide +kernel
theorem dX8_way_16 : decode cX8_way 16 = .ok (.if_icmp .lt 7, 3) := by decide +kernel
theorem dX8_way_19 : decode cX8_way 19 = .ok (.iconst 0, 1) := by decide +kernel
theorem dX8_way_20 : decode cX8_way 20 = .ok (.goto 4, 3) := by decide +kernel
theorem dX8_way_23 : decode cX8_way 23 = .ok (.iconst 1, 1) := by decide +kernel
theorem dX8_way_24 : decode cX8_way 24 = .ok (.invokevirtual 299, 3) := by decide +kernel
theorem dX8_way_27 : decode cX8_way 27 = .ok (.invokevirtual 194, 3) := by decide +kernel
theorem dX8_way_30 : decode cX8_way 30 = .ok (.ifCond .ne 5, 3) := by decide +kernel
theorem dX8_way_33 : decode cX8_way 33 = .ok (.iconst (-1), 1) := by decide +kernel
theorem dX8_way_34 : decode cX8_way 34 = .ok (.ireturn, 1) := by decide +kernel
theorem dX8_way_35 : decode cX8_way 35 = .ok (.aload_n 0, 1) := by decide +kernel
theorem dX8_way_36 : decode cX8_way 36 = .ok (.iconst 0, 1) := by decide +kernel
theorem dX8_way_37 : decode cX8_way 37 = .ok (.aload_n 0, 1) := by decide +kernel
theorem dX8_way_38 : decode cX8_way 38 = .ok (.getfield 19, 3) := by decide +kernel
theorem dX8_way_41 : decode cX8_way 41 = .ok (.invokevirtual 275, 3) := by decide +kernel
theorem dX8_way_44 : decode cX8_way 44 = .ok (.ifCond .ne 10, 3) := by decide +kernel
theorem dX8_way_47 : decode cX8_way 47 = .ok (.aload_n 0, 1) := by decide +kernel
theorem dX8_way_48 : decode cX8_way 48 = .ok (.bipush 6, 2) := by decide +kernel
theorem dX8_way_50 : decode cX8_way 50 = .ok (.invokevirtual 266, 3) := by decide +kernel
theorem dX8_way_53 : decode cX8_way 53 = .ok (.ireturn, 1) := by decide +kernel
theorem dX8_way_54 : decode cX8_way 54 = .ok (.aload_n 0, 1) := by decide +kernel
theorem dX8_way_55 : decode cX8_way 55 = .ok (.invokevirtual 302, 3) := by decide +kernel
theorem dX8_way_58 : decode cX8_way 58 = .ok (.aload_n 0, 1) := by decide +kernel
theorem dX8_way_59 : decode cX8_way 59 = .ok (.aload_n 0, 1) := by decide +kernel
theorem dX8_way_60 : decode cX8_way 60 = .ok (.aload_n 0, 1) := by decide +kernel
theorem dX8_way_61 : decode cX8_way 61 = .ok (.getfield 19, 3) := by decide +kernel
theorem dX8_way_64 : decode cX8_way 64 = .ok (.iload_n 3, 1) := by decide +kernel
theorem dX8_way_65 : decode cX8_way 65 = .ok (.invokevirtual 305, 3) := by decide +kernel
theorem dX8_way_68 : decode cX8_way 68 = .ok (.invokevirtual 272, 3) := by decide +kernel
theorem dX8_way_71 : decode cX8_way 71 = .ok (.ireturn, 1) := by decide +kernel
theorem dX8_deepMost_0 : decode cX8_deepMost 0 = .ok (.iconst 0, 1) := by decide +kernel
theorem dX8_deepMost_1 : decode cX8_deepMost 1 = .ok (.istore_n 1, 1) := by decide +kernel
theorem dX8_deepMost_2 : decode cX8_deepMost 2 = .ok (.iconst 0, 1) := by decide +kernel
theorem dX8_deepMost_3 : decode cX8_deepMost 3 = .ok (.istore_n 2, 1) := by decide +kernel
theorem dX8_deepMost_4 : decode cX8_deepMost 4 = .ok (.iload_n 2, 1) := by decide +kernel
theorem dX8_deepMost_5 : decode cX8_deepMost 5 = .ok (.aload_n 0, 1) := by decide +kernel
theorem dX8_deepMost_6 : decode cX8_deepMost 6 = .ok (.getfield 290, 3) := by decide +kernel
theorem dX8_deepMost_9 : decode cX8_deepMost 9 = .ok (.if_icmp .ge 30, 3) := by decide +kernel
theorem dX8_deepMost_12 : decode cX8_deepMost 12 = .ok (.aload_n 0, 1) := by decide +kernel
theorem dX8_deepMost_13 : decode cX8_deepMost 13 = .ok (.getfield 63, 3) := by decide +kernel
theorem dX8_deepMost_16 : decode cX8_deepMost 16 = .ok (.iload_n 2, 1) := by decide +kernel
theorem dX8_deepMost_17 : decode cX8_deepMost 17 = .ok (.iaload, 1) := by decide +kernel
theorem dX8_deepMost_18 : decode cX8_deepMost 18 = .ok (.iload_n 1, 1) := by decide +kernel
theorem dX8_deepMost_19 : decode cX8_deepMost 19 = .ok (.if_icmp .le 12, 3) := by decide +kernel
theorem dX8_deepMost_22 : decode cX8_deepMost 22 = .ok (.aload_n 0, 1) := by decide +kernel
theorem dX8_deepMost_23 : decode cX8_deepMost 23 = .ok (.getfield 63, 3) := by decide +kernel
theorem dX8_deepMost_26 : decode cX8_deepMost 26 = .ok (.iload_n 2, 1) := by decide +kernel
theorem dX8_deepMost_27 : decode cX8_deepMost 27 = .ok (.iaload, 1) := by decide +kernel
theorem dX8_deepMost_28 : decode cX8_deepMost 28 = .ok (.goto 4, 3) := by decide +kernel
theorem dX8_deepMost_31 : decode cX8_deepMost 31 = .ok (.iload_n 1, 1) := by decide +kernel
theorem dX8_deepMost_32 : decode cX8_deepMost 32 = .ok (.istore_n 1, 1) := by decide +kernel
theorem dX8_deepMost_33 : decode cX8_deepMost 33 = .ok (.iinc 2 1, 3) := by decide +kernel
theorem dX8_deepMost_36 : decode cX8_deepMost 36 = .ok (.goto (-32), 3) := by decide +kernel
theorem dX8_deepMost_39 : decode cX8_deepMost 39 = .ok (.iload_n 1, 1) := by decide +kernel
theorem dX8_deepMost_40 : decode cX8_deepMost 40 = .ok (.ireturn, 1) := by decide +kernel
theorem dX8_deep_0 : decode cX8_deep 0 = .ok (.aload_n 0, 1) := by decide +kernel
theorem dX8_deep_1 : decode cX8_deep 1 = .ok (.aload_n 0, 1) := by decide +kernel
theorem dX8_deep_2 : decode cX8_deep 2 = .ok (.iload_n 1, 1) := by decide +kernel
theorem dX8_deep_3 : decode cX8_deep 3 = .ok (.ifCond .lt 7, 3) := by decide +kernel
theorem dX8_deep_6 : decode cX8_deep 6 = .ok (.iconst 0, 1) := by decide +kernel
theorem dX8_deep_7 : decode cX8_deep 7 = .ok (.goto 4, 3) := by decide +kernel
theorem dX8_deep_10 : decode cX8_deep 10 = .ok (.iconst 1, 1) := by decide +kernel
theorem dX8_deep_11 : decode cX8_deep 11 = .ok (.invokevirtual 299, 3) := by decide +kernel
theorem dX8_deep_14 : decode cX8_deep 14 = .ok (.invokevirtual 194, 3) := by decide +kernel
theorem dX8_deep_17 : decode cX8_deep 17 = .ok (.ifCond .ne 5, 3) := by decide +kernel
theorem dX8_deep_20 : decode cX8_deep 20 = .ok (.iconst (-1), 1) := by decide +kernel
theorem dX8_deep_21 : decode cX8_deep 21 = .ok (.ireturn, 1) := by decide +kernel
theorem dX8_deep_22 : decode cX8_deep 22 = .ok (.aload_n 0, 1) := by decide +kernel
theorem dX8_deep_23 : decode cX8_deep 23 = .ok (.invokevirtual 302, 3) := by decide +kernel
theorem dX8_deep_26 : decode cX8_deep 26 = .ok (.iconst 0, 1) := by decide +kernel
theorem dX8_deep_27 : decode cX8_deep 27 = .ok (.istore_n 2, 1) := by decide +kernel
theorem dX8_deep_28 : decode cX8_deep 28 = .ok (.iconst 0, 1) := by decide +kernel
theorem dX8_deep_29 : decode cX8_deep 29 = .ok (.istore_n 3, 1) := by decide +kernel
theorem dX8_deep_30 : decode cX8_deep 30 = .ok (.iload_n 3, 1) := by decide +kernel
theorem dX8_deep_31 : decode cX8_deep 31 = .ok (.aload_n 0, 1) := by decide +kernel
theorem dX8_deep_32 : decode cX8_deep 32 = .ok (.getfield 290, 3) := by decide +kernel
theorem dX8_deep_35 : decode cX8_deep 35 = .ok (.if_icmp .ge 27, 3) := by decide +kernel
theorem dX8_deep_38 : decode cX8_deep 38 = .ok (.iload_n 2, 1) := by decide +kernel
theorem dX8_deep_39 : decode cX8_deep 39 = .ok (.aload_n 0, 1) := by decide +kernel
theorem dX8_deep_40 : decode cX8_deep 40 = .ok (.getfield 63, 3) := by decide +kernel
theorem dX8_deep_43 : decode cX8_deep 43 = .ok (.iload_n 3, 1) := by decide +kernel
theorem dX8_deep_44 : decode cX8_deep 44 = .ok (.iaload, 1) := by decide +kernel
theorem dX8_deep_45 : decode cX8_deep 45 = .ok (.iload_n 1, 1) := by decide +kernel
theorem dX8_deep_46 : decode cX8_deep 46 = .ok (.if_icmp .ne 7, 3) := by decide +kernel
theorem dX8_deep_49 : decode cX8_deep 49 = .ok (.iconst 1, 1) := by decide +kernel
theorem dX8_deep_50 : decode cX8_deep 50 = .ok (.goto 4, 3) := by decide +kernel
theorem dX8_deep_53 : decode cX8_deep 53 = .ok (.iconst 0, 1) := by decide +kernel
theorem dX8_deep_54 : decode cX8_deep 54 = .ok (.iadd, 1) := by decide +kernel
theorem dX8_deep_55 : decode cX8_deep 55 = .ok (.istore_n 2, 1) := by decide +kernel
theorem dX8_deep_56 : decode cX8_deep 56 = .ok (.iinc 3 1, 3) := by decide +kernel
theorem dX8_deep_59 : decode cX8_deep 59 = .ok (.goto (-29), 3) := by decide +kernel
theorem dX8_deep_62 : decode cX8_deep 62 = .ok (.iload_n 2, 1) := by decide +kernel
theorem dX8_deep_63 : decode cX8_deep 63 = .ok (.ifCond .ne 11, 3) := by decide +kernel
theorem dX8_deep_66 : decode cX8_deep 66 = .ok (.aload_n 0, 1) := by decide +kernel
theorem dX8_deep_67 : decode cX8_deep 67 = .ok (.iconst 5, 1) := by decide +kernel
theorem dX8_deep_68 : decode cX8_deep 68 = .ok (.invokevirtual 266, 3) := by decide +kernel
theorem dX8_deep_71 : decode cX8_deep 71 = .ok (.goto 4, 3) := by decide +kernel
theorem dX8_deep_74 : decode cX8_deep 74 = .ok (.iload_n 2, 1) := by decide +kernel
theorem dX8_deep_75 : decode cX8_deep 75 = .ok (.ireturn, 1) := by decide +kernel
theorem dX8_deepest_0 : decode cX8_deepest 0 = .ok (.aload_n 0, 1) := by decide +kernel
theorem dX8_deepest_1 : decode cX8_deepest 1 = .ok (.aload_n 0, 1) := by decide +kernel
theorem dX8_deepest_2 : decode cX8_deepest 2 = .ok (.iload_n 1, 1) := by decide +kernel
theorem dX8_deepest_3 : decode cX8_deepest 3 = .ok (.i2l, 1) := by decide +kernel
theorem dX8_deepest_4 : decode cX8_deepest 4 = .ok (.lconst 0, 1) := by decide +kernel
theorem dX8_deepest_5 : decode cX8_deepest 5 = .ok (.lconst 1, 1) := by decide +kernel
theorem dX8_deepest_6 : decode cX8_deepest 6 = .ok (.invokestatic 114, 3) := by decide +kernel
theorem dX8_deepest_9 : decode cX8_deepest 9 = .ok (.ifCond .eq 7, 3) := by decide +kernel
theorem dX8_deepest_12 : decode cX8_deepest 12 = .ok (.iconst 0, 1) := by decide +kernel
theorem dX8_deepest_13 : decode cX8_deepest 13 = .ok (.goto 4, 3) := by decide +kernel
theorem dX8_deepest_16 : decode cX8_deepest 16 = .ok (.iconst 1, 1) := by decide +kernel
theorem dX8_deepest_17 : decode cX8_deepest 17 = .ok (.invokevirtual 299, 3) := by decide +kernel
theorem dX8_deepest_20 : decode cX8_deepest 20 = .ok (.invokevirtual 194, 3) := by decide +kernel
theorem dX8_deepest_23 : decode cX8_deepest 23 = .ok (.ifCond .ne 5, 3) := by decide +kernel
theorem dX8_deepest_26 : decode cX8_deepest 26 = .ok (.iconst (-1), 1) := by decide +kernel
theorem dX8_deepest_27 : decode cX8_deepest 27 = .ok (.ireturn, 1) := by decide +kernel
theorem dX8_deepest_28 : decode cX8_deepest 28 = .ok (.aload_n 0, 1) := by decide +kernel
theorem dX8_deepest_29 : decode cX8_deepest 29 = .ok (.invokevirtual 302, 3) := by decide +kernel
theorem dX8_deepest_32 : decode cX8_deepest 32 = .ok (.aload_n 0, 1) := by decide +kernel
theorem dX8_deepest_33 : decode cX8_deepest 33 = .ok (.invokevirtual 308, 3) := by decide +kernel
theorem dX8_deepest_36 : decode cX8_deepest 36 = .ok (.istore_n 2, 1) := by decide +kernel
theorem dX8_deepest_37 : decode cX8_deepest 37 = .ok (.iconst 0, 1) := by decide +kernel
theorem dX8_deepest_38 : decode cX8_deepest 38 = .ok (.istore_n 3, 1) := by decide +kernel
theorem dX8_deepest_39 : decode cX8_deepest 39 = .ok (.aload_n 0, 1) := by decide +kernel
theorem dX8_deepest_40 : decode cX8_deepest 40 = .ok (.getfield 63, 3) := by decide +kernel
theorem dX8_deepest_43 : decode cX8_deepest 43 = .ok (.iload_n 3, 1) := by decide +kernel
theorem dX8_deepest_44 : decode cX8_deepest 44 = .ok (.iaload, 1) := by decide +kernel
theorem dX8_deepest_45 : decode cX8_deepest 45 = .ok (.iload_n 2, 1) := by decide +kernel
theorem dX8_deepest_46 : decode cX8_deepest 46 = .ok (.if_icmp .eq 9, 3) := by decide +kernel
theorem dX8_deepest_49 : decode cX8_deepest 49 = .ok (.iinc 3 1, 3) := by decide +kernel
theorem dX8_deepest_52 : decode cX8_deepest 52 = .ok (.goto (-13), 3) := by decide +kernel
theorem dX8_deepest_55 : decode cX8_deepest 55 = .ok (.iload_n 1, 1) := by decide +kernel
theorem dX8_deepest_56 : decode cX8_deepest 56 = .ok (.ifCond .ne 7, 3) := by decide +kernel
theorem dX8_deepest_59 : decode cX8_deepest 59 = .ok (.iload_n 2, 1) := by decide +kernel
theorem dX8_deepest_60 : decode cX8_deepest 60 = .ok (.goto 4, 3) := by decide +kernel
theorem dX8_deepest_63 : decode cX8_deepest 63 = .ok (.iload_n 3, 1) := by decide +kernel
theorem dX8_deepest_64 : decode cX8_deepest 64 = .ok (.ireturn, 1) := by decide +kernel
theorem dX8_mean_0 : decode cX8_mean 0 = .ok (.aload_n 0, 1) := by decide +kernel
theorem dX8_mean_1 : decode cX8_mean 1 = .ok (.aload_n 0, 1) := by decide +kernel
theorem dX8_mean_2 : decode cX8_mean 2 = .ok (.iload_n 1, 1) := by decide +kernel
theorem dX8_mean_3 : decode cX8_mean 3 = .ok (.i2l, 1) := by decide +kernel
theorem dX8_mean_4 : decode cX8_mean 4 = .ok (.lconst 0, 1) := by decide +kernel
theorem dX8_mean_5 : decode cX8_mean 5 = .ok (.lconst 1, 1) := by decide +kernel
theorem dX8_mean_6 : decode cX8_mean 6 = .ok (.invokestatic 114, 3) := by decide +kernel
theorem dX8_mean_9 : decode cX8_mean 9 = .ok (.ifCond .eq 7, 3) := by decide +kernel
theorem dX8_mean_12 : decode cX8_mean 12 = .ok (.iconst 0, 1) := by decide +kernel
theorem dX8_mean_13 : decode cX8_mean 13 = .ok (.goto 4, 3) := by decide +kernel
theorem dX8_mean_16 : decode cX8_mean 16 = .ok (.iconst 1, 1) := by decide +kernel
theorem dX8_mean_17 : decode cX8_mean 17 = .ok (.invokevirtual 299, 3) := by decide +kernel
theorem dX8_mean_20 : decode cX8_mean 20 = .ok (.invokevirtual 194, 3) := by decide +kernel
theorem dX8_mean_23 : decode cX8_mean 23 = .ok (.ifCond .ne 5, 3) := by decide +kernel
theorem dX8_mean_26 : decode cX8_mean 26 = .ok (.iconst (-1), 1) := by decide +kernel
theorem dX8_mean_27 : decode cX8_mean 27 = .ok (.ireturn, 1) := by decide +kernel
theorem dX8_mean_28 : decode cX8_mean 28 = .ok (.aload_n 0, 1) := by decide +kernel
theorem dX8_mean_29 : decode cX8_mean 29 = .ok (.invokevirtual 302, 3) := by decide +kernel
theorem dX8_mean_32 : decode cX8_mean 32 = .ok (.iconst 0, 1) := by decide +kernel
theorem dX8_mean_33 : decode cX8_mean 33 = .ok (.istore_n 2, 1) := by decide +kernel
theorem dX8_mean_34 : decode cX8_mean 34 = .ok (.iconst 0, 1) := by decide +kernel
theorem dX8_mean_35 : decode cX8_mean 35 = .ok (.istore_n 3, 1) := by decide +kernel
theorem dX8_mean_36 : decode cX8_mean 36 = .ok (.iload_n 3, 1) := by decide +kernel
theorem dX8_mean_37 : decode cX8_mean 37 = .ok (.aload_n 0, 1) := by decide +kernel
theorem dX8_mean_38 : decode cX8_mean 38 = .ok (.getfield 290, 3) := by decide +kernel
theorem dX8_mean_41 : decode cX8_mean 41 = .ok (.if_icmp .ge 18, 3) := by decide +kernel
theorem dX8_mean_44 : decode cX8_mean 44 = .ok (.iload_n 2, 1) := by decide +kernel
theorem dX8_mean_45 : decode cX8_mean 45 = .ok (.aload_n 0, 1) := by decide +kernel
theorem dX8_mean_46 : decode cX8_mean 46 = .ok (.getfield 63, 3) := by decide +kernel
theorem dX8_mean_49 : decode cX8_mean 49 = .ok (.iload_n 3, 1) := by decide +kernel
theorem dX8_mean_50 : decode cX8_mean 50 = .ok (.iaload, 1) := by decide +kernel
theorem dX8_mean_51 : decode cX8_mean 51 = .ok (.iadd, 1) := by decide +kernel
theorem dX8_mean_52 : decode cX8_mean 52 = .ok (.istore_n 2, 1) := by decide +kernel
theorem dX8_mean_53 : decode cX8_mean 53 = .ok (.iinc 3 1, 3) := by decide +kernel
theorem dX8_mean_56 : decode cX8_mean 56 = .ok (.goto (-20), 3) := by decide +kernel
theorem dX8_mean_59 : decode cX8_mean 59 = .ok (.iload_n 1, 1) := by decide +kernel
theorem dX8_mean_60 : decode cX8_mean 60 = .ok (.ifCond .ne 7, 3) := by decide +kernel
theorem dX8_mean_63 : decode cX8_mean 63 = .ok (.iload_n 2, 1) := by decide +kernel
theorem dX8_mean_64 : decode cX8_mean 64 = .ok (.goto 7, 3) := by decide +kernel
theorem dX8_mean_67 : decode cX8_mean 67 = .ok (.aload_n 0, 1) := by decide +kernel
theorem dX8_mean_68 : decode cX8_mean 68 = .ok (.getfield 290, 3) := by decide +kernel
theorem dX8_mean_71 : decode cX8_mean 71 = .ok (.aload_n 0, 1) := by decide +kernel
theorem dX8_mean_72 : decode cX8_mean 72 = .ok (.getfield 290, 3) := by decide +kernel
theorem dX8_mean_75 : decode cX8_mean 75 = .ok (.iload_n 2, 1) := by decide +kernel
theorem dX8_mean_76 : decode cX8_mean 76 = .ok (.invokestatic 240, 3) := by decide +kernel
theorem dX8_mean_79 : decode cX8_mean 79 = .ok (.idiv, 1) := by decide +kernel
theorem dX8_mean_80 : decode cX8_mean 80 = .ok (.ireturn, 1) := by decide +kernel
theorem dX8_nearer_0 : decode cX8_nearer 0 = .ok (.aload_n 0, 1) := by decide +kernel
theorem dX8_nearer_1 : decode cX8_nearer 1 = .ok (.aload_n 0, 1) := by decide +kernel
theorem dX8_nearer_2 : decode cX8_nearer 2 = .ok (.iconst 0, 1) := by decide +kernel
theorem dX8_nearer_3 : decode cX8_nearer 3 = .ok (.invokevirtual 299, 3) := by decide +kernel
theorem dX8_nearer_6 : decode cX8_nearer 6 = .ok (.invokevirtual 194, 3) := by decide +kernel
theorem dX8_nearer_9 : decode cX8_nearer 9 = .ok (.ifCond .ne 5, 3) := by decide +kernel
theorem dX8_nearer_12 : decode cX8_nearer 12 = .ok (.iconst (-1), 1) := by decide +kernel
theorem dX8_nearer_13 : decode cX8_nearer 13 = .ok (.ireturn, 1) := by decide +kernel
theorem dX8_nearer_14 : decode cX8_nearer 14 = .ok (.aload_n 0, 1) := by decide +kernel
theorem dX8_nearer_15 : decode cX8_nearer 15 = .ok (.aload_n 0, 1) := by decide +kernel
theorem dX8_nearer_16 : decode cX8_nearer 16 = .ok (.getfield 19, 3) := by decide +kernel
theorem dX8_nearer_19 : decode cX8_nearer 19 = .ok (.invokevirtual 198, 3) := by decide +kernel
theorem dX8_nearer_22 : decode cX8_nearer 22 = .ok (.aload_n 0, 1) := by decide +kernel
theorem dX8_nearer_23 : decode cX8_nearer 23 = .ok (.iconst 0, 1) := by decide +kernel
theorem dX8_nearer_24 : decode cX8_nearer 24 = .ok (.aload_n 0, 1) := by decide +kernel
theorem dX8_nearer_25 : decode cX8_nearer 25 = .ok (.getfield 19, 3) := by decide +kernel
theorem dX8_nearer_28 : decode cX8_nearer 28 = .ok (.invokevirtual 275, 3) := by decide +kernel
theorem dX8_nearer_31 : decode cX8_nearer 31 = .ok (.ifCond .ne 10, 3) := by decide +kernel
theorem dX8_nearer_34 : decode cX8_nearer 34 = .ok (.aload_n 0, 1) := by decide +kernel
theorem dX8_nearer_35 : decode cX8_nearer 35 = .ok (.bipush 6, 2) := by decide +kernel
theorem dX8_nearer_37 : decode cX8_nearer 37 = .ok (.invokevirtual 266, 3) := by decide +kernel
theorem dX8_nearer_40 : decode cX8_nearer 40 = .ok (.ireturn, 1) := by decide +kernel
theorem dX8_nearer_41 : decode cX8_nearer 41 = .ok (.aload_n 0, 1) := by decide +kernel
theorem dX8_nearer_42 : decode cX8_nearer 42 = .ok (.invokevirtual 302, 3) := by decide +kernel
theorem dX8_nearer_45 : decode cX8_nearer 45 = .ok (.aload_n 0, 1) := by decide +kernel
theorem dX8_nearer_46 : decode cX8_nearer 46 = .ok (.getfield 63, 3) := by decide +kernel
theorem dX8_nearer_49 : decode cX8_nearer 49 = .ok (.aload_n 0, 1) := by decide +kernel
theorem dX8_nearer_50 : decode cX8_nearer 50 = .ok (.aload_n 0, 1) := by decide +kernel
theorem dX8_nearer_51 : decode cX8_nearer 51 = .ok (.getfield 19, 3) := by decide +kernel
theorem dX8_nearer_54 : decode cX8_nearer 54 = .ok (.invokevirtual 284, 3) := by decide +kernel
theorem dX8_nearer_57 : decode cX8_nearer 57 = .ok (.iaload, 1) := by decide +kernel
theorem dX8_nearer_58 : decode cX8_nearer 58 = .ok (.istore_n 1, 1) := by decide +kernel
theorem dX8_nearer_59 : decode cX8_nearer 59 = .ok (.iconst 0, 1) := by decide +kernel
theorem dX8_nearer_60 : decode cX8_nearer 60 = .ok (.istore_n 2, 1) := by decide +kernel
theorem dX8_nearer_61 : decode cX8_nearer 61 = .ok (.iconst 0, 1) := by decide +kernel
theorem dX8_nearer_62 : decode cX8_nearer 62 = .ok (.istore_n 3, 1) := by decide +kernel
theorem dX8_nearer_63 : decode cX8_nearer 63 = .ok (.iload_n 3, 1) := by decide +kernel
theorem dX8_nearer_64 : decode cX8_nearer 64 = .ok (.iconst 2, 1) := by decide +kernel
theorem dX8_nearer_65 : decode cX8_nearer 65 = .ok (.aload_n 0, 1) := by decide +kernel
theorem dX8_nearer_66 : decode cX8_nearer 66 = .ok (.invokevirtual 110, 3) := by decide +kernel
theorem dX8_nearer_69 : decode cX8_nearer 69 = .ok (.imul, 1) := by decide +kernel
theorem dX8_nearer_70 : decode cX8_nearer 70 = .ok (.if_icmp .ge 60, 3) := by decide +kernel
theorem dX8_nearer_73 : decode cX8_nearer 73 = .ok (.aload_n 0, 1) := by decide +kernel
theorem dX8_nearer_74 : decode cX8_nearer 74 = .ok (.iload_n 3, 1) := by decide +kernel
theorem dX8_nearer_75 : decode cX8_nearer 75 = .ok (.aload_n 0, 1) := by decide +kernel
theorem dX8_nearer_76 : decode cX8_nearer 76 = .ok (.getfield 25, 3) := by decide +kernel
theorem dX8_nearer_79 : decode cX8_nearer 79 = .ok (.invokevirtual 210, 3) := by decide +kernel
theorem dX8_nearer_82 : decode cX8_nearer 82 = .ok (.aload_n 0, 1) := by decide +kernel
theorem dX8_nearer_83 : decode cX8_nearer 83 = .ok (.getfield 19, 3) := by decide +kernel
theorem dX8_nearer_86 : decode cX8_nearer 86 = .ok (.aload_n 0, 1) := by decide +kernel
theorem dX8_nearer_87 : decode cX8_nearer 87 = .ok (.getfield 25, 3) := by decide +kernel
theorem dX8_nearer_90 : decode cX8_nearer 90 = .ok (.aload_n 0, 1) := by decide +kernel
theorem dX8_nearer_91 : decode cX8_nearer 91 = .ok (.getfield 22, 3) := by decide +kernel
theorem dX8_nearer_94 : decode cX8_nearer 94 = .ok (.invokestatic 138, 3) := by decide +kernel
theorem dX8_nearer_97 : decode cX8_nearer 97 = .ok (.iload_n 2, 1) := by decide +kernel
theorem dX8_nearer_98 : decode cX8_nearer 98 = .ok (.aload_n 0, 1) := by decide +kernel
theorem dX8_nearer_99 : decode cX8_nearer 99 = .ok (.getfield 63, 3) := by decide +kernel
theorem dX8_nearer_102 : decode cX8_nearer 102 = .ok (.aload_n 0, 1) := by decide +kernel
theorem dX8_nearer_103 : decode cX8_nearer 103 = .ok (.aload_n 0, 1) := by decide +kernel
theorem dX8_nearer_104 : decode cX8_nearer 104 = .ok (.getfield 22, 3) := by decide +kernel
theorem dX8_nearer_107 : decode cX8_nearer 107 = .ok (.invokevirtual 284, 3) := by decide +kernel
theorem dX8_nearer_110 : decode cX8_nearer 110 = .ok (.iaload, 1) := by decide +kernel
theorem dX8_nearer_111 : decode cX8_nearer 111 = .ok (.iload_n 1, 1) := by decide +kernel
theorem dX8_nearer_112 : decode cX8_nearer 112 = .ok (.if_icmp .ge 9, 3) := by decide +kernel
theorem dX8_nearer_115 : decode cX8_nearer 115 = .ok (.iconst 1, 1) := by decide +kernel
theorem dX8_nearer_116 : decode cX8_nearer 116 = .ok (.iload_n 3, 1) := by decide +kernel
theorem dX8_nearer_117 : decode cX8_nearer 117 = .ok (.ishl, 1) := by decide +kernel
theorem dX8_nearer_118 : decode cX8_nearer 118 = .ok (.goto 4, 3) := by decide +kernel
theorem dX8_nearer_121 : decode cX8_nearer 121 = .ok (.iconst 0, 1) := by decide +kernel
theorem dX8_nearer_122 : decode cX8_nearer 122 = .ok (.ior, 1) := by decide +kernel
theorem dX8_nearer_123 : decode cX8_nearer 123 = .ok (.istore_n 2, 1) := by decide +kernel
theorem dX8_nearer_124 : decode cX8_nearer 124 = .ok (.iinc 3 1, 3) := by decide +kernel
theorem dX8_nearer_127 : decode cX8_nearer 127 = .ok (.goto (-64), 3) := by decide +kernel
theorem dX8_nearer_130 : decode cX8_nearer 130 = .ok (.iload_n 2, 1) := by decide +kernel
theorem dX8_nearer_131 : decode cX8_nearer 131 = .ok (.ireturn, 1) := by decide +kernel
theorem dX8_solve_0 : decode cX8_solve 0 = .ok (.aload_n 0, 1) := by decide +kernel
theorem dX8_solve_1 : decode cX8_solve 1 = .ok (.aload_n 0, 1) := by decide +kernel
theorem dX8_solve_2 : decode cX8_solve 2 = .ok (.iload_n 1, 1) := by decide +kernel
theorem dX8_solve_3 : decode cX8_solve 3 = .ok (.iconst (-1), 1) := by decide +kernel
theorem dX8_solve_4 : decode cX8_solve 4 = .ok (.if_icmp .lt 7, 3) := by decide +kernel
theorem dX8_solve_7 : decode cX8_solve 7 = .ok (.iconst 0, 1) := by decide +kernel
theorem dX8_solve_8 : decode cX8_solve 8 = .ok (.goto 4, 3) := by decide +kernel
theorem dX8_solve_11 : decode cX8_solve 11 = .ok (.iconst 1, 1) := by decide +kernel
theorem dX8_solve_12 : decode cX8_solve 12 = .ok (.invokevirtual 299, 3) := by decide +kernel
theorem dX8_solve_15 : decode cX8_solve 15 = .ok (.invokevirtual 194, 3) := by decide +kernel
theorem dX8_solve_18 : decode cX8_solve 18 = .ok (.ifCond .ne 5, 3) := by decide +kernel
theorem dX8_solve_21 : decode cX8_solve 21 = .ok (.iconst (-1), 1) := by decide +kernel
theorem dX8_solve_22 : decode cX8_solve 22 = .ok (.ireturn, 1) := by decide +kernel
theorem dX8_solve_23 : decode cX8_solve 23 = .ok (.aload_n 0, 1) := by decide +kernel
theorem dX8_solve_24 : decode cX8_solve 24 = .ok (.aload_n 0, 1) := by decide +kernel
theorem dX8_solve_25 : decode cX8_solve 25 = .ok (.getfield 16, 3) := by decide +kernel
theorem dX8_solve_28 : decode cX8_solve 28 = .ok (.invokevirtual 198, 3) := by decide +kernel
theorem dX8_solve_31 : decode cX8_solve 31 = .ok (.aload_n 0, 1) := by decide +kernel
theorem dX8_solve_32 : decode cX8_solve 32 = .ok (.getfield 16, 3) := by decide +kernel
theorem dX8_solve_35 : decode cX8_solve 35 = .ok (.aload_n 0, 1) := by decide +kernel
theorem dX8_solve_36 : decode cX8_solve 36 = .ok (.getfield 19, 3) := by decide +kernel
theorem dX8_solve_39 : decode cX8_solve 39 = .ok (.invokestatic 130, 3) := by decide +kernel
theorem dX8_solve_42 : decode cX8_solve 42 = .ok (.aload_n 0, 1) := by decide +kernel
theorem dX8_solve_43 : decode cX8_solve 43 = .ok (.iconst 0, 1) := by decide +kernel
theorem dX8_solve_44 : decode cX8_solve 44 = .ok (.aload_n 0, 1) := by decide +kernel
theorem dX8_solve_45 : decode cX8_solve 45 = .ok (.getfield 19, 3) := by decide +kernel
theorem dX8_solve_48 : decode cX8_solve 48 = .ok (.invokevirtual 275, 3) := by decide +kernel
theorem dX8_solve_51 : decode cX8_solve 51 = .ok (.ifCond .ne 10, 3) := by decide +kernel
theorem dX8_solve_54 : decode cX8_solve 54 = .ok (.aload_n 0, 1) := by decide +kernel
theorem dX8_solve_55 : decode cX8_solve 55 = .ok (.bipush 6, 2) := by decide +kernel
theorem dX8_solve_57 : decode cX8_solve 57 = .ok (.invokevirtual 266, 3) := by decide +kernel
theorem dX8_solve_60 : decode cX8_solve 60 = .ok (.ireturn, 1) := by decide +kernel
theorem dX8_solve_61 : decode cX8_solve 61 = .ok (.aload_n 0, 1) := by decide +kernel
theorem dX8_solve_62 : decode cX8_solve 62 = .ok (.invokevirtual 302, 3) := by decide +kernel
theorem dX8_solve_65 : decode cX8_solve 65 = .ok (.aload_n 0, 1) := by decide +kernel
theorem dX8_solve_66 : decode cX8_solve 66 = .ok (.aload_n 0, 1) := by decide +kernel
theorem dX8_solve_67 : decode cX8_solve 67 = .ok (.aload_n 0, 1) := by decide +kernel
theorem dX8_solve_68 : decode cX8_solve 68 = .ok (.getfield 19, 3) := by decide +kernel
theorem dX8_solve_71 : decode cX8_solve 71 = .ok (.iload_n 1, 1) := by decide +kernel
theorem dX8_solve_72 : decode cX8_solve 72 = .ok (.invokevirtual 305, 3) := by decide +kernel
theorem dX8_solve_75 : decode cX8_solve 75 = .ok (.invokevirtual 272, 3) := by decide +kernel
theorem dX8_solve_78 : decode cX8_solve 78 = .ok (.ireturn, 1) := by decide +kernel
theorem dX8_turns_0 : decode cX8_turns 0 = .ok (.aload_n 2, 1) := by decide +kernel
theorem dX8_turns_1 : decode cX8_turns 1 = .ok (.aload_n 0, 1) := by decide +kernel
theorem dX8_turns_2 : decode cX8_turns 2 = .ok (.getfield 25, 3) := by decide +kernel
theorem dX8_turns_5 : decode cX8_turns 5 = .ok (.invokestatic 130, 3) := by decide +kernel
theorem dX8_turns_8 : decode cX8_turns 8 = .ok (.aload_n 0, 1) := by decide +kernel
theorem dX8_turns_9 : decode cX8_turns 9 = .ok (.getfield 25, 3) := by decide +kernel
theorem dX8_turns_12 : decode cX8_turns 12 = .ok (.aload_n 1, 1) := by decide +kernel
theorem dX8_turns_13 : decode cX8_turns 13 = .ok (.aload_n 0, 1) := by decide +kernel
theorem dX8_turns_14 : decode cX8_turns 14 = .ok (.getfield 28, 3) := by decide +kernel
theorem dX8_turns_17 : decode cX8_turns 17 = .ok (.invokestatic 138, 3) := by decide +kernel
theorem dX8_turns_20 : decode cX8_turns 20 = .ok (.aload_n 0, 1) := by decide +kernel
theorem dX8_turns_21 : decode cX8_turns 21 = .ok (.getfield 28, 3) := by decide +kernel
theorem dX8_turns_24 : decode cX8_turns 24 = .ok (.aload_n 2, 1) := by decide +kernel
theorem dX8_turns_25 : decode cX8_turns 25 = .ok (.aload_n 3, 1) := by decide +kernel
theorem dX8_turns_26 : decode cX8_turns 26 = .ok (.invokestatic 138, 3) := by decide +kernel
theorem dX8_turns_29 : decode cX8_turns 29 = .ok (.return_, 1) := by decide +kernel
theorem dX8_goesWithMoves_0 : decode cX8_goesWithMoves 0 = .ok (.iconst 0, 1) := by decide +kernel
theorem dX8_goesWithMoves_1 : decode cX8_goesWithMoves 1 = .ok (.istore_n 2, 1) := by decide +kernel
theorem dX8_goesWithMoves_2 : decode cX8_goesWithMoves 2 = .ok (.iload_n 2, 1) := by decide +kernel
theorem dX8_goesWithMoves_3 : decode cX8_goesWithMoves 3 = .ok (.aload_n 0, 1) := by decide +kernel
theorem dX8_goesWithMoves_4 : decode cX8_goesWithMoves 4 = .ok (.invokevirtual 110, 3) := by decide +kernel
theorem dX8_goesWithMoves_7 : decode cX8_goesWithMoves 7 = .ok (.if_icmp .ge 58, 3) := by decide +kernel
theorem dX8_goesWithMoves_10 : decode cX8_goesWithMoves 10 = .ok (.aload_n 0, 1) := by decide +kernel
theorem dX8_goesWithMoves_11 : decode cX8_goesWithMoves 11 = .ok (.iload_n 2, 1) := by decide +kernel
theorem dX8_goesWithMoves_12 : decode cX8_goesWithMoves 12 = .ok (.aload_n 0, 1) := by decide +kernel
theorem dX8_goesWithMoves_13 : decode cX8_goesWithMoves 13 = .ok (.getfield 19, 3) := by decide +kernel
theorem dX8_goesWithMoves_16 : decode cX8_goesWithMoves 16 = .ok (.invokevirtual 126, 3) := by decide +kernel
theorem dX8_goesWithMoves_19 : decode cX8_goesWithMoves 19 = .ok (.aload_n 1, 1) := by decide +kernel
theorem dX8_goesWithMoves_20 : decode cX8_goesWithMoves 20 = .ok (.aload_n 0, 1) := by decide +kernel
theorem dX8_goesWithMoves_21 : decode cX8_goesWithMoves 21 = .ok (.getfield 19, 3) := by decide +kernel
theorem dX8_goesWithMoves_24 : decode cX8_goesWithMoves 24 = .ok (.aload_n 0, 1) := by decide +kernel
theorem dX8_goesWithMoves_25 : decode cX8_goesWithMoves 25 = .ok (.getfield 25, 3) := by decide +kernel
theorem dX8_goesWithMoves_28 : decode cX8_goesWithMoves 28 = .ok (.invokestatic 138, 3) := by decide +kernel
theorem dX8_goesWithMoves_31 : decode cX8_goesWithMoves 31 = .ok (.aload_n 0, 1) := by decide +kernel
theorem dX8_goesWithMoves_32 : decode cX8_goesWithMoves 32 = .ok (.getfield 19, 3) := by decide +kernel
theorem dX8_goesWithMoves_35 : decode cX8_goesWithMoves 35 = .ok (.aload_n 1, 1) := by decide +kernel
theorem dX8_goesWithMoves_36 : decode cX8_goesWithMoves 36 = .ok (.aload_n 0, 1) := by decide +kernel
theorem dX8_goesWithMoves_37 : decode cX8_goesWithMoves 37 = .ok (.getfield 28, 3) := by decide +kernel
theorem dX8_goesWithMoves_40 : decode cX8_goesWithMoves 40 = .ok (.invokestatic 138, 3) := by decide +kernel
theorem dX8_goesWithMoves_43 : decode cX8_goesWithMoves 43 = .ok (.aload_n 0, 1) := by decide +kernel
theorem dX8_goesWithMoves_44 : decode cX8_goesWithMoves 44 = .ok (.getfield 25, 3) := by decide +kernel
theorem dX8_goesWithMoves_47 : decode cX8_goesWithMoves 47 = .ok (.aload_n 0, 1) := by decide +kernel
theorem dX8_goesWithMoves_48 : decode cX8_goesWithMoves 48 = .ok (.getfield 28, 3) := by decide +kernel
theorem dX8_goesWithMoves_51 : decode cX8_goesWithMoves 51 = .ok (.invokestatic 311, 3) := by decide +kernel
theorem dX8_goesWithMoves_54 : decode cX8_goesWithMoves 54 = .ok (.ifCond .ne 5, 3) := by decide +kernel
theorem dX8_goesWithMoves_57 : decode cX8_goesWithMoves 57 = .ok (.iconst 0, 1) := by decide +kernel
theorem dX8_goesWithMoves_58 : decode cX8_goesWithMoves 58 = .ok (.ireturn, 1) := by decide +kernel
theorem dX8_goesWithMoves_59 : decode cX8_goesWithMoves 59 = .ok (.iinc 2 1, 3) := by decide +kernel
theorem dX8_goesWithMoves_62 : decode cX8_goesWithMoves 62 = .ok (.goto (-60), 3) := by decide +kernel
theorem dX8_goesWithMoves_65 : decode cX8_goesWithMoves 65 = .ok (.iconst 1, 1) := by decide +kernel
theorem dX8_goesWithMoves_66 : decode cX8_goesWithMoves 66 = .ok (.ireturn, 1) := by decide +kernel
theorem dX8_centre_0 : decode cX8_centre 0 = .ok (.aload_n 0, 1) := by decide +kernel
theorem dX8_centre_1 : decode cX8_centre 1 = .ok (.aload_n 0, 1) := by decide +kernel
theorem dX8_centre_2 : decode cX8_centre 2 = .ok (.iload_n 1, 1) := by decide +kernel
theorem dX8_centre_3 : decode cX8_centre 3 = .ok (.iconst (-1), 1) := by decide +kernel
theorem dX8_centre_4 : decode cX8_centre 4 = .ok (.if_icmp .lt 7, 3) := by decide +kernel
theorem dX8_centre_7 : decode cX8_centre 7 = .ok (.iconst 0, 1) := by decide +kernel
theorem dX8_centre_8 : decode cX8_centre 8 = .ok (.goto 4, 3) := by decide +kernel
theorem dX8_centre_11 : decode cX8_centre 11 = .ok (.iconst 1, 1) := by decide +kernel
theorem dX8_centre_12 : decode cX8_centre 12 = .ok (.invokevirtual 299, 3) := by decide +kernel
theorem dX8_centre_15 : decode cX8_centre 15 = .ok (.invokevirtual 194, 3) := by decide +kernel
theorem dX8_centre_18 : decode cX8_centre 18 = .ok (.ifCond .ne 5, 3) := by decide +kernel
theorem dX8_centre_21 : decode cX8_centre 21 = .ok (.iconst (-1), 1) := by decide +kernel
theorem dX8_centre_22 : decode cX8_centre 22 = .ok (.ireturn, 1) := by decide +kernel
theorem dX8_centre_23 : decode cX8_centre 23 = .ok (.aload_n 0, 1) := by decide +kernel
theorem dX8_centre_24 : decode cX8_centre 24 = .ok (.invokevirtual 293, 3) := by decide +kernel
theorem dX8_centre_27 : decode cX8_centre 27 = .ok (.iconst 0, 1) := by decide +kernel
theorem dX8_centre_28 : decode cX8_centre 28 = .ok (.istore_n 2, 1) := by decide +kernel
theorem dX8_centre_29 : decode cX8_centre 29 = .ok (.iconst 0, 1) := by decide +kernel
theorem dX8_centre_30 : decode cX8_centre 30 = .ok (.istore_n 3, 1) := by decide +kernel
theorem dX8_centre_31 : decode cX8_centre 31 = .ok (.iload_n 3, 1) := by decide +kernel
theorem dX8_centre_32 : decode cX8_centre 32 = .ok (.aload_n 0, 1) := by decide +kernel
theorem dX8_centre_33 : decode cX8_centre 33 = .ok (.getfield 290, 3) := by decide +kernel
theorem dX8_centre_36 : decode cX8_centre 36 = .ok (.if_icmp .ge 42, 3) := by decide +kernel
theorem dX8_centre_39 : decode cX8_centre 39 = .ok (.aload_n 0, 1) := by decide +kernel
theorem dX8_centre_40 : decode cX8_centre 40 = .ok (.iload_n 3, 1) := by decide +kernel
theorem dX8_centre_41 : decode cX8_centre 41 = .ok (.aload_n 0, 1) := by decide +kernel
theorem dX8_centre_42 : decode cX8_centre 42 = .ok (.getfield 16, 3) := by decide +kernel
theorem dX8_centre_45 : decode cX8_centre 45 = .ok (.invokevirtual 296, 3) := by decide +kernel
theorem dX8_centre_48 : decode cX8_centre 48 = .ok (.aload_n 0, 1) := by decide +kernel
theorem dX8_centre_49 : decode cX8_centre 49 = .ok (.aload_n 0, 1) := by decide +kernel
theorem dX8_centre_50 : decode cX8_centre 50 = .ok (.getfield 16, 3) := by decide +kernel
theorem dX8_centre_53 : decode cX8_centre 53 = .ok (.invokevirtual 315, 3) := by decide +kernel
theorem dX8_centre_56 : decode cX8_centre 56 = .ok (.ifCond .ne 6, 3) := by decide +kernel
theorem dX8_centre_59 : decode cX8_centre 59 = .ok (.goto 13, 3) := by decide +kernel
theorem dX8_centre_62 : decode cX8_centre 62 = .ok (.iload_n 2, 1) := by decide +kernel
theorem dX8_centre_63 : decode cX8_centre 63 = .ok (.iload_n 1, 1) := by decide +kernel
theorem dX8_centre_64 : decode cX8_centre 64 = .ok (.if_icmp .ne 5, 3) := by decide +kernel
theorem dX8_centre_67 : decode cX8_centre 67 = .ok (.iload_n 3, 1) := by decide +kernel
theorem dX8_centre_68 : decode cX8_centre 68 = .ok (.ireturn, 1) := by decide +kernel
theorem dX8_centre_69 : decode cX8_centre 69 = .ok (.iinc 2 1, 3) := by decide +kernel
theorem dX8_centre_72 : decode cX8_centre 72 = .ok (.iinc 3 1, 3) := by decide +kernel
theorem dX8_centre_75 : decode cX8_centre 75 = .ok (.goto (-44), 3) := by decide +kernel
theorem dX8_centre_78 : decode cX8_centre 78 = .ok (.iload_n 1, 1) := by decide +kernel
theorem dX8_centre_79 : decode cX8_centre 79 = .ok (.iconst (-1), 1) := by decide +kernel
theorem dX8_centre_80 : decode cX8_centre 80 = .ok (.if_icmp .ne 7, 3) := by decide +kernel
theorem dX8_centre_83 : decode cX8_centre 83 = .ok (.iload_n 2, 1) := by decide +kernel
theorem dX8_centre_84 : decode cX8_centre 84 = .ok (.goto 8, 3) := by decide +kernel
theorem dX8_centre_87 : decode cX8_centre 87 = .ok (.aload_n 0, 1) := by decide +kernel
theorem dX8_centre_88 : decode cX8_centre 88 = .ok (.iconst 5, 1) := by decide +kernel
theorem dX8_centre_89 : decode cX8_centre 89 = .ok (.invokevirtual 266, 3) := by decide +kernel
theorem dX8_centre_92 : decode cX8_centre 92 = .ok (.ireturn, 1) := by decide +kernel
theorem dX8_laysClass_0 : decode cX8_laysClass 0 = .ok (.aload_n 0, 1) := by decide +kernel
theorem dX8_laysClass_1 : decode cX8_laysClass 1 = .ok (.getfield 69, 3) := by decide +kernel
theorem dX8_laysClass_4 : decode cX8_laysClass 4 = .ok (.iload_n 1, 1) := by decide +kernel
theorem dX8_laysClass_5 : decode cX8_laysClass 5 = .ok (.iload_n 1, 1) := by decide +kernel
theorem dX8_laysClass_6 : decode cX8_laysClass 6 = .ok (.iastore, 1) := by decide +kernel
theorem dX8_laysClass_7 : decode cX8_laysClass 7 = .ok (.aload_n 0, 1) := by decide +kernel
theorem dX8_laysClass_8 : decode cX8_laysClass 8 = .ok (.getfield 66, 3) := by decide +kernel
theorem dX8_laysClass_11 : decode cX8_laysClass 11 = .ok (.iconst 0, 1) := by decide +kernel
theorem dX8_laysClass_12 : decode cX8_laysClass 12 = .ok (.iload_n 1, 1) := by decide +kernel
theorem dX8_laysClass_13 : decode cX8_laysClass 13 = .ok (.iastore, 1) := by decide +kernel
theorem dX8_laysClass_14 : decode cX8_laysClass 14 = .ok (.iconst 1, 1) := by decide +kernel
theorem dX8_laysClass_15 : decode cX8_laysClass 15 = .ok (.istore_n 2, 1) := by decide +kernel
theorem dX8_laysClass_16 : decode cX8_laysClass 16 = .ok (.iconst 0, 1) := by decide +kernel
theorem dX8_laysClass_17 : decode cX8_laysClass 17 = .ok (.istore_n 3, 1) := by decide +kernel
theorem dX8_laysClass_18 : decode cX8_laysClass 18 = .ok (.iload_n 3, 1) := by decide +kernel
theorem dX8_laysClass_19 : decode cX8_laysClass 19 = .ok (.iload_n 2, 1) := by decide +kernel
theorem dX8_laysClass_20 : decode cX8_laysClass 20 = .ok (.if_icmp .ge 110, 3) := by decide +kernel
theorem dX8_laysClass_23 : decode cX8_laysClass 23 = .ok (.iconst 0, 1) := by decide +kernel
theorem dX8_laysClass_24 : decode cX8_laysClass 24 = .ok (.istore 4, 2) := by decide +kernel
theorem dX8_laysClass_26 : decode cX8_laysClass 26 = .ok (.iload 4, 2) := by decide +kernel
theorem dX8_laysClass_28 : decode cX8_laysClass 28 = .ok (.aload_n 0, 1) := by decide +kernel
theorem dX8_laysClass_29 : decode cX8_laysClass 29 = .ok (.invokevirtual 110, 3) := by decide +kernel
theorem dX8_laysClass_32 : decode cX8_laysClass 32 = .ok (.if_icmp .ge 92, 3) := by decide +kernel
theorem dX8_laysClass_35 : decode cX8_laysClass 35 = .ok (.aload_n 0, 1) := by decide +kernel
theorem dX8_laysClass_36 : decode cX8_laysClass 36 = .ok (.aload_n 0, 1) := by decide +kernel
theorem dX8_laysClass_37 : decode cX8_laysClass 37 = .ok (.getfield 66, 3) := by decide +kernel
theorem dX8_laysClass_40 : decode cX8_laysClass 40 = .ok (.iload_n 3, 1) := by decide +kernel
theorem dX8_laysClass_41 : decode cX8_laysClass 41 = .ok (.iaload, 1) := by decide +kernel
theorem dX8_laysClass_42 : decode cX8_laysClass 42 = .ok (.aload_n 0, 1) := by decide +kernel
theorem dX8_laysClass_43 : decode cX8_laysClass 43 = .ok (.getfield 16, 3) := by decide +kernel
theorem dX8_laysClass_46 : decode cX8_laysClass 46 = .ok (.invokevirtual 296, 3) := by decide +kernel
theorem dX8_laysClass_49 : decode cX8_laysClass 49 = .ok (.aload_n 0, 1) := by decide +kernel
theorem dX8_laysClass_50 : decode cX8_laysClass 50 = .ok (.iload 4, 2) := by decide +kernel
theorem dX8_laysClass_52 : decode cX8_laysClass 52 = .ok (.aload_n 0, 1) := by decide +kernel
theorem dX8_laysClass_53 : decode cX8_laysClass 53 = .ok (.getfield 19, 3) := by decide +kernel
theorem dX8_laysClass_56 : decode cX8_laysClass 56 = .ok (.invokevirtual 126, 3) := by decide +kernel
theorem dX8_laysClass_59 : decode cX8_laysClass 59 = .ok (.aload_n 0, 1) := by decide +kernel
theorem dX8_laysClass_60 : decode cX8_laysClass 60 = .ok (.aload_n 0, 1) := by decide +kernel
theorem dX8_laysClass_61 : decode cX8_laysClass 61 = .ok (.getfield 16, 3) := by decide +kernel
theorem dX8_laysClass_64 : decode cX8_laysClass 64 = .ok (.aload_n 0, 1) := by decide +kernel
theorem dX8_laysClass_65 : decode cX8_laysClass 65 = .ok (.getfield 19, 3) := by decide +kernel
theorem dX8_laysClass_68 : decode cX8_laysClass 68 = .ok (.aload_n 0, 1) := by decide +kernel
theorem dX8_laysClass_69 : decode cX8_laysClass 69 = .ok (.getfield 22, 3) := by decide +kernel
theorem dX8_laysClass_72 : decode cX8_laysClass 72 = .ok (.invokevirtual 318, 3) := by decide +kernel
theorem dX8_laysClass_75 : decode cX8_laysClass 75 = .ok (.aload_n 0, 1) := by decide +kernel
theorem dX8_laysClass_76 : decode cX8_laysClass 76 = .ok (.aload_n 0, 1) := by decide +kernel
theorem dX8_laysClass_77 : decode cX8_laysClass 77 = .ok (.getfield 22, 3) := by decide +kernel
theorem dX8_laysClass_80 : decode cX8_laysClass 80 = .ok (.invokevirtual 284, 3) := by decide +kernel
theorem dX8_laysClass_83 : decode cX8_laysClass 83 = .ok (.istore 5, 2) := by decide +kernel
theorem dX8_laysClass_85 : decode cX8_laysClass 85 = .ok (.aload_n 0, 1) := by decide +kernel
theorem dX8_laysClass_86 : decode cX8_laysClass 86 = .ok (.getfield 69, 3) := by decide +kernel
theorem dX8_laysClass_89 : decode cX8_laysClass 89 = .ok (.iload 5, 2) := by decide +kernel
theorem dX8_laysClass_91 : decode cX8_laysClass 91 = .ok (.iaload, 1) := by decide +kernel
theorem dX8_laysClass_92 : decode cX8_laysClass 92 = .ok (.iconst (-1), 1) := by decide +kernel
theorem dX8_laysClass_93 : decode cX8_laysClass 93 = .ok (.if_icmp .eq 6, 3) := by decide +kernel
theorem dX8_laysClass_96 : decode cX8_laysClass 96 = .ok (.goto 22, 3) := by decide +kernel
theorem dX8_laysClass_99 : decode cX8_laysClass 99 = .ok (.aload_n 0, 1) := by decide +kernel
theorem dX8_laysClass_100 : decode cX8_laysClass 100 = .ok (.getfield 69, 3) := by decide +kernel
theorem dX8_laysClass_103 : decode cX8_laysClass 103 = .ok (.iload 5, 2) := by decide +kernel
theorem dX8_laysClass_105 : decode cX8_laysClass 105 = .ok (.iload_n 1, 1) := by decide +kernel
theorem dX8_laysClass_106 : decode cX8_laysClass 106 = .ok (.iastore, 1) := by decide +kernel
theorem dX8_laysClass_107 : decode cX8_laysClass 107 = .ok (.aload_n 0, 1) := by decide +kernel
theorem dX8_laysClass_108 : decode cX8_laysClass 108 = .ok (.getfield 66, 3) := by decide +kernel
theorem dX8_laysClass_111 : decode cX8_laysClass 111 = .ok (.iload_n 2, 1) := by decide +kernel
theorem dX8_laysClass_112 : decode cX8_laysClass 112 = .ok (.iload 5, 2) := by decide +kernel
theorem dX8_laysClass_114 : decode cX8_laysClass 114 = .ok (.iastore, 1) := by decide +kernel
theorem dX8_laysClass_115 : decode cX8_laysClass 115 = .ok (.iinc 2 1, 3) := by decide +kernel
theorem dX8_laysClass_118 : decode cX8_laysClass 118 = .ok (.iinc 4 1, 3) := by decide +kernel
theorem dX8_laysClass_121 : decode cX8_laysClass 121 = .ok (.goto (-95), 3) := by decide +kernel
theorem dX8_laysClass_124 : decode cX8_laysClass 124 = .ok (.iinc 3 1, 3) := by decide +kernel
theorem dX8_laysClass_127 : decode cX8_laysClass 127 = .ok (.goto (-109), 3) := by decide +kernel
theorem dX8_laysClass_130 : decode cX8_laysClass 130 = .ok (.iload_n 2, 1) := by decide +kernel
theorem dX8_laysClass_131 : decode cX8_laysClass 131 = .ok (.ireturn, 1) := by decide +kernel
theorem dX8_laysClasses_0 : decode cX8_laysClasses 0 = .ok (.aload_n 0, 1) := by decide +kernel
theorem dX8_laysClasses_1 : decode cX8_laysClasses 1 = .ok (.invokevirtual 293, 3) := by decide +kernel
theorem dX8_laysClasses_4 : decode cX8_laysClasses 4 = .ok (.iconst 0, 1) := by decide +kernel
theorem dX8_laysClasses_5 : decode cX8_laysClasses 5 = .ok (.istore_n 1, 1) := by decide +kernel
theorem dX8_laysClasses_6 : decode cX8_laysClasses 6 = .ok (.iload_n 1, 1) := by decide +kernel
theorem dX8_laysClasses_7 : decode cX8_laysClasses 7 = .ok (.aload_n 0, 1) := by decide +kernel
theorem dX8_laysClasses_8 : decode cX8_laysClasses 8 = .ok (.getfield 290, 3) := by decide +kernel
theorem dX8_laysClasses_11 : decode cX8_laysClasses 11 = .ok (.if_icmp .ge 16, 3) := by decide +kernel
theorem dX8_laysClasses_14 : decode cX8_laysClasses 14 = .ok (.aload_n 0, 1) := by decide +kernel
theorem dX8_laysClasses_15 : decode cX8_laysClasses 15 = .ok (.getfield 69, 3) := by decide +kernel
theorem dX8_laysClasses_18 : decode cX8_laysClasses 18 = .ok (.iload_n 1, 1) := by decide +kernel
theorem dX8_laysClasses_19 : decode cX8_laysClasses 19 = .ok (.iconst (-1), 1) := by decide +kernel
theorem dX8_laysClasses_20 : decode cX8_laysClasses 20 = .ok (.iastore, 1) := by decide +kernel
theorem dX8_laysClasses_21 : decode cX8_laysClasses 21 = .ok (.iinc 1 1, 3) := by decide +kernel
theorem dX8_laysClasses_24 : decode cX8_laysClasses 24 = .ok (.goto (-18), 3) := by decide +kernel
theorem dX8_laysClasses_27 : decode cX8_laysClasses 27 = .ok (.iconst 0, 1) := by decide +kernel
theorem dX8_laysClasses_28 : decode cX8_laysClasses 28 = .ok (.istore_n 1, 1) := by decide +kernel
theorem dX8_laysClasses_29 : decode cX8_laysClasses 29 = .ok (.iconst 0, 1) := by decide +kernel
theorem dX8_laysClasses_30 : decode cX8_laysClasses 30 = .ok (.istore_n 2, 1) := by decide +kernel
theorem dX8_laysClasses_31 : decode cX8_laysClasses 31 = .ok (.iload_n 2, 1) := by decide +kernel
theorem dX8_laysClasses_32 : decode cX8_laysClasses 32 = .ok (.aload_n 0, 1) := by decide +kernel
theorem dX8_laysClasses_33 : decode cX8_laysClasses 33 = .ok (.getfield 290, 3) := by decide +kernel
theorem dX8_laysClasses_36 : decode cX8_laysClasses 36 = .ok (.if_icmp .ge 31, 3) := by decide +kernel
theorem dX8_laysClasses_39 : decode cX8_laysClasses 39 = .ok (.aload_n 0, 1) := by decide +kernel
theorem dX8_laysClasses_40 : decode cX8_laysClasses 40 = .ok (.getfield 69, 3) := by decide +kernel
theorem dX8_laysClasses_43 : decode cX8_laysClasses 43 = .ok (.iload_n 2, 1) := by decide +kernel
theorem dX8_laysClasses_44 : decode cX8_laysClasses 44 = .ok (.iaload, 1) := by decide +kernel
theorem dX8_laysClasses_45 : decode cX8_laysClasses 45 = .ok (.iconst (-1), 1) := by decide +kernel
theorem dX8_laysClasses_46 : decode cX8_laysClasses 46 = .ok (.if_icmp .eq 6, 3) := by decide +kernel
theorem dX8_laysClasses_49 : decode cX8_laysClasses 49 = .ok (.goto 12, 3) := by decide +kernel
theorem dX8_laysClasses_52 : decode cX8_laysClasses 52 = .ok (.aload_n 0, 1) := by decide +kernel
theorem dX8_laysClasses_53 : decode cX8_laysClasses 53 = .ok (.iload_n 2, 1) := by decide +kernel
theorem dX8_laysClasses_54 : decode cX8_laysClasses 54 = .ok (.invokevirtual 321, 3) := by decide +kernel
theorem dX8_laysClasses_57 : decode cX8_laysClasses 57 = .ok (.pop, 1) := by decide +kernel
theorem dX8_laysClasses_58 : decode cX8_laysClasses 58 = .ok (.iinc 1 1, 3) := by decide +kernel
theorem dX8_laysClasses_61 : decode cX8_laysClasses 61 = .ok (.iinc 2 1, 3) := by decide +kernel
theorem dX8_laysClasses_64 : decode cX8_laysClasses 64 = .ok (.goto (-33), 3) := by decide +kernel
theorem dX8_laysClasses_67 : decode cX8_laysClasses 67 = .ok (.iload_n 1, 1) := by decide +kernel
theorem dX8_laysClasses_68 : decode cX8_laysClasses 68 = .ok (.ireturn, 1) := by decide +kernel
theorem dX8_classes_0 : decode cX8_classes 0 = .ok (.aload_n 0, 1) := by decide +kernel
theorem dX8_classes_1 : decode cX8_classes 1 = .ok (.aload_n 0, 1) := by decide +kernel
theorem dX8_classes_2 : decode cX8_classes 2 = .ok (.iconst 0, 1) := by decide +kernel
theorem dX8_classes_3 : decode cX8_classes 3 = .ok (.invokevirtual 299, 3) := by decide +kernel
theorem dX8_classes_6 : decode cX8_classes 6 = .ok (.invokevirtual 194, 3) := by decide +kernel
theorem dX8_classes_9 : decode cX8_classes 9 = .ok (.ifCond .eq 10, 3) := by decide +kernel
theorem dX8_classes_12 : decode cX8_classes 12 = .ok (.aload_n 0, 1) := by decide +kernel
theorem dX8_classes_13 : decode cX8_classes 13 = .ok (.invokevirtual 324, 3) := by decide +kernel
theorem dX8_classes_16 : decode cX8_classes 16 = .ok (.goto 4, 3) := by decide +kernel
theorem dX8_classes_19 : decode cX8_classes 19 = .ok (.iconst (-1), 1) := by decide +kernel
theorem dX8_classes_20 : decode cX8_classes 20 = .ok (.ireturn, 1) := by decide +kernel
theorem dX8_inClass_0 : decode cX8_inClass 0 = .ok (.iconst 0, 1) := by decide +kernel
theorem dX8_inClass_1 : decode cX8_inClass 1 = .ok (.istore_n 2, 1) := by decide +kernel
theorem dX8_inClass_2 : decode cX8_inClass 2 = .ok (.iconst 0, 1) := by decide +kernel
theorem dX8_inClass_3 : decode cX8_inClass 3 = .ok (.istore_n 3, 1) := by decide +kernel
theorem dX8_inClass_4 : decode cX8_inClass 4 = .ok (.iload_n 3, 1) := by decide +kernel
theorem dX8_inClass_5 : decode cX8_inClass 5 = .ok (.aload_n 0, 1) := by decide +kernel
theorem dX8_inClass_6 : decode cX8_inClass 6 = .ok (.getfield 290, 3) := by decide +kernel
theorem dX8_inClass_9 : decode cX8_inClass 9 = .ok (.if_icmp .ge 32, 3) := by decide +kernel
theorem dX8_inClass_12 : decode cX8_inClass 12 = .ok (.iload_n 2, 1) := by decide +kernel
theorem dX8_inClass_13 : decode cX8_inClass 13 = .ok (.aload_n 0, 1) := by decide +kernel
theorem dX8_inClass_14 : decode cX8_inClass 14 = .ok (.getfield 69, 3) := by decide +kernel
theorem dX8_inClass_17 : decode cX8_inClass 17 = .ok (.iload_n 3, 1) := by decide +kernel
theorem dX8_inClass_18 : decode cX8_inClass 18 = .ok (.iaload, 1) := by decide +kernel
theorem dX8_inClass_19 : decode cX8_inClass 19 = .ok (.aload_n 0, 1) := by decide +kernel
theorem dX8_inClass_20 : decode cX8_inClass 20 = .ok (.getfield 69, 3) := by decide +kernel
theorem dX8_inClass_23 : decode cX8_inClass 23 = .ok (.iload_n 1, 1) := by decide +kernel
theorem dX8_inClass_24 : decode cX8_inClass 24 = .ok (.iaload, 1) := by decide +kernel
theorem dX8_inClass_25 : decode cX8_inClass 25 = .ok (.if_icmp .ne 7, 3) := by decide +kernel
theorem dX8_inClass_28 : decode cX8_inClass 28 = .ok (.iconst 1, 1) := by decide +kernel
theorem dX8_inClass_29 : decode cX8_inClass 29 = .ok (.goto 4, 3) := by decide +kernel
theorem dX8_inClass_32 : decode cX8_inClass 32 = .ok (.iconst 0, 1) := by decide +kernel
theorem dX8_inClass_33 : decode cX8_inClass 33 = .ok (.iadd, 1) := by decide +kernel
theorem dX8_inClass_34 : decode cX8_inClass 34 = .ok (.istore_n 2, 1) := by decide +kernel
theorem dX8_inClass_35 : decode cX8_inClass 35 = .ok (.iinc 3 1, 3) := by decide +kernel
theorem dX8_inClass_38 : decode cX8_inClass 38 = .ok (.goto (-34), 3) := by decide +kernel
theorem dX8_inClass_41 : decode cX8_inClass 41 = .ok (.iload_n 2, 1) := by decide +kernel
theorem dX8_inClass_42 : decode cX8_inClass 42 = .ok (.ireturn, 1) := by decide +kernel
theorem dX8_alike_0 : decode cX8_alike 0 = .ok (.aload_n 0, 1) := by decide +kernel
theorem dX8_alike_1 : decode cX8_alike 1 = .ok (.aload_n 0, 1) := by decide +kernel
theorem dX8_alike_2 : decode cX8_alike 2 = .ok (.aload_n 0, 1) := by decide +kernel
theorem dX8_alike_3 : decode cX8_alike 3 = .ok (.lload_n 1, 1) := by decide +kernel
theorem dX8_alike_4 : decode cX8_alike 4 = .ok (.aload_n 0, 1) := by decide +kernel
theorem dX8_alike_5 : decode cX8_alike 5 = .ok (.getfield 16, 3) := by decide +kernel
theorem dX8_alike_8 : decode cX8_alike 8 = .ok (.invokevirtual 217, 3) := by decide +kernel
theorem dX8_alike_11 : decode cX8_alike 11 = .ok (.ifCond .eq 7, 3) := by decide +kernel
theorem dX8_alike_14 : decode cX8_alike 14 = .ok (.iconst 0, 1) := by decide +kernel
theorem dX8_alike_15 : decode cX8_alike 15 = .ok (.goto 4, 3) := by decide +kernel
theorem dX8_alike_18 : decode cX8_alike 18 = .ok (.iconst 1, 1) := by decide +kernel
theorem dX8_alike_19 : decode cX8_alike 19 = .ok (.invokevirtual 299, 3) := by decide +kernel
theorem dX8_alike_22 : decode cX8_alike 22 = .ok (.invokevirtual 194, 3) := by decide +kernel
theorem dX8_alike_25 : decode cX8_alike 25 = .ok (.ifCond .ne 5, 3) := by decide +kernel
theorem dX8_alike_28 : decode cX8_alike 28 = .ok (.iconst (-1), 1) := by decide +kernel
theorem dX8_alike_29 : decode cX8_alike 29 = .ok (.ireturn, 1) := by decide +kernel
theorem dX8_alike_30 : decode cX8_alike 30 = .ok (.aload_n 0, 1) := by decide +kernel
theorem dX8_alike_31 : decode cX8_alike 31 = .ok (.aload_n 0, 1) := by decide +kernel
theorem dX8_alike_32 : decode cX8_alike 32 = .ok (.getfield 16, 3) := by decide +kernel
theorem dX8_alike_35 : decode cX8_alike 35 = .ok (.invokevirtual 284, 3) := by decide +kernel
theorem dX8_alike_38 : decode cX8_alike 38 = .ok (.istore_n 3, 1) := by decide +kernel
theorem dX8_alike_39 : decode cX8_alike 39 = .ok (.iload_n 3, 1) := by decide +kernel
theorem dX8_alike_40 : decode cX8_alike 40 = .ok (.iconst (-1), 1) := by decide +kernel
theorem dX8_alike_41 : decode cX8_alike 41 = .ok (.if_icmp .ne 10, 3) := by decide +kernel
theorem dX8_alike_44 : decode cX8_alike 44 = .ok (.aload_n 0, 1) := by decide +kernel
theorem dX8_alike_45 : decode cX8_alike 45 = .ok (.bipush 6, 2) := by decide +kernel
theorem dX8_alike_47 : decode cX8_alike 47 = .ok (.invokevirtual 266, 3) := by decide +kernel
theorem dX8_alike_50 : decode cX8_alike 50 = .ok (.ireturn, 1) := by decide +kernel
theorem dX8_alike_51 : decode cX8_alike 51 = .ok (.aload_n 0, 1) := by decide +kernel
theorem dX8_alike_52 : decode cX8_alike 52 = .ok (.invokevirtual 324, 3) := by decide +kernel
theorem dX8_alike_55 : decode cX8_alike 55 = .ok (.pop, 1) := by decide +kernel
theorem dX8_alike_56 : decode cX8_alike 56 = .ok (.aload_n 0, 1) := by decide +kernel
theorem dX8_alike_57 : decode cX8_alike 57 = .ok (.iload_n 3, 1) := by decide +kernel
theorem dX8_alike_58 : decode cX8_alike 58 = .ok (.invokevirtual 327, 3) := by decide +kernel
theorem dX8_alike_61 : decode cX8_alike 61 = .ok (.ireturn, 1) := by decide +kernel
theorem dX8_same_0 : decode cX8_same 0 = .ok (.aload_n 0, 1) := by decide +kernel
theorem dX8_same_1 : decode cX8_same 1 = .ok (.aload_n 0, 1) := by decide +kernel
theorem dX8_same_2 : decode cX8_same 2 = .ok (.aload_n 0, 1) := by decide +kernel
theorem dX8_same_3 : decode cX8_same 3 = .ok (.lload_n 1, 1) := by decide +kernel
theorem dX8_same_4 : decode cX8_same 4 = .ok (.aload_n 0, 1) := by decide +kernel
theorem dX8_same_5 : decode cX8_same 5 = .ok (.getfield 16, 3) := by decide +kernel
theorem dX8_same_8 : decode cX8_same 8 = .ok (.invokevirtual 217, 3) := by decide +kernel
theorem dX8_same_11 : decode cX8_same 11 = .ok (.ifCond .eq 19, 3) := by decide +kernel
theorem dX8_same_14 : decode cX8_same 14 = .ok (.aload_n 0, 1) := by decide +kernel
theorem dX8_same_15 : decode cX8_same 15 = .ok (.lload_n 3, 1) := by decide +kernel
theorem dX8_same_16 : decode cX8_same 16 = .ok (.aload_n 0, 1) := by decide +kernel
theorem dX8_same_17 : decode cX8_same 17 = .ok (.getfield 19, 3) := by decide +kernel
theorem dX8_same_20 : decode cX8_same 20 = .ok (.invokevirtual 217, 3) := by decide +kernel
theorem dX8_same_23 : decode cX8_same 23 = .ok (.ifCond .eq 7, 3) := by decide +kernel
theorem dX8_same_26 : decode cX8_same 26 = .ok (.iconst 0, 1) := by decide +kernel
theorem dX8_same_27 : decode cX8_same 27 = .ok (.goto 4, 3) := by decide +kernel
theorem dX8_same_30 : decode cX8_same 30 = .ok (.iconst 1, 1) := by decide +kernel
theorem dX8_same_31 : decode cX8_same 31 = .ok (.invokevirtual 299, 3) := by decide +kernel
theorem dX8_same_34 : decode cX8_same 34 = .ok (.invokevirtual 194, 3) := by decide +kernel
theorem dX8_same_37 : decode cX8_same 37 = .ok (.ifCond .ne 5, 3) := by decide +kernel
theorem dX8_same_40 : decode cX8_same 40 = .ok (.iconst (-1), 1) := by decide +kernel
theorem dX8_same_41 : decode cX8_same 41 = .ok (.ireturn, 1) := by decide +kernel
theorem dX8_same_42 : decode cX8_same 42 = .ok (.aload_n 0, 1) := by decide +kernel
theorem dX8_same_43 : decode cX8_same 43 = .ok (.aload_n 0, 1) := by decide +kernel
theorem dX8_same_44 : decode cX8_same 44 = .ok (.getfield 16, 3) := by decide +kernel
theorem dX8_same_47 : decode cX8_same 47 = .ok (.invokevirtual 284, 3) := by decide +kernel
theorem dX8_same_50 : decode cX8_same 50 = .ok (.istore 5, 2) := by decide +kernel
theorem dX8_same_52 : decode cX8_same 52 = .ok (.aload_n 0, 1) := by decide +kernel
theorem dX8_same_53 : decode cX8_same 53 = .ok (.aload_n 0, 1) := by decide +kernel
theorem dX8_same_54 : decode cX8_same 54 = .ok (.getfield 19, 3) := by decide +kernel
theorem dX8_same_57 : decode cX8_same 57 = .ok (.invokevirtual 284, 3) := by decide +kernel
theorem dX8_same_60 : decode cX8_same 60 = .ok (.istore 6, 2) := by decide +kernel
theorem dX8_same_62 : decode cX8_same 62 = .ok (.iload 5, 2) := by decide +kernel
theorem dX8_same_64 : decode cX8_same 64 = .ok (.iconst (-1), 1) := by decide +kernel
theorem dX8_same_65 : decode cX8_same 65 = .ok (.if_icmp .eq 9, 3) := by decide +kernel
theorem dX8_same_68 : decode cX8_same 68 = .ok (.iload 6, 2) := by decide +kernel
theorem dX8_same_70 : decode cX8_same 70 = .ok (.iconst (-1), 1) := by decide +kernel
theorem dX8_same_71 : decode cX8_same 71 = .ok (.if_icmp .ne 10, 3) := by decide +kernel
theorem dX8_same_74 : decode cX8_same 74 = .ok (.aload_n 0, 1) := by decide +kernel
theorem dX8_same_75 : decode cX8_same 75 = .ok (.bipush 6, 2) := by decide +kernel
theorem dX8_same_77 : decode cX8_same 77 = .ok (.invokevirtual 266, 3) := by decide +kernel
theorem dX8_same_80 : decode cX8_same 80 = .ok (.ireturn, 1) := by decide +kernel
theorem dX8_same_81 : decode cX8_same 81 = .ok (.aload_n 0, 1) := by decide +kernel
theorem dX8_same_82 : decode cX8_same 82 = .ok (.invokevirtual 324, 3) := by decide +kernel
theorem dX8_same_85 : decode cX8_same 85 = .ok (.pop, 1) := by decide +kernel
theorem dX8_same_86 : decode cX8_same 86 = .ok (.aload_n 0, 1) := by decide +kernel
theorem dX8_same_87 : decode cX8_same 87 = .ok (.getfield 69, 3) := by decide +kernel
theorem dX8_same_90 : decode cX8_same 90 = .ok (.iload 5, 2) := by decide +kernel
theorem dX8_same_92 : decode cX8_same 92 = .ok (.iaload, 1) := by decide +kernel
theorem dX8_same_93 : decode cX8_same 93 = .ok (.aload_n 0, 1) := by decide +kernel
theorem dX8_same_94 : decode cX8_same 94 = .ok (.getfield 69, 3) := by decide +kernel
theorem dX8_same_97 : decode cX8_same 97 = .ok (.iload 6, 2) := by decide +kernel
theorem dX8_same_99 : decode cX8_same 99 = .ok (.iaload, 1) := by decide +kernel
theorem dX8_same_100 : decode cX8_same 100 = .ok (.if_icmp .ne 7, 3) := by decide +kernel
theorem dX8_same_103 : decode cX8_same 103 = .ok (.iconst 1, 1) := by decide +kernel
theorem dX8_same_104 : decode cX8_same 104 = .ok (.goto 4, 3) := by decide +kernel
theorem dX8_same_107 : decode cX8_same 107 = .ok (.iconst 0, 1) := by decide +kernel
theorem dX8_same_108 : decode cX8_same 108 = .ok (.ireturn, 1) := by decide +kernel
theorem dX8_commutes_0 : decode cX8_commutes 0 = .ok (.aload_n 1, 1) := by decide +kernel
theorem dX8_commutes_1 : decode cX8_commutes 1 = .ok (.aload_n 0, 1) := by decide +kernel
theorem dX8_commutes_2 : decode cX8_commutes 2 = .ok (.getfield 25, 3) := by decide +kernel
theorem dX8_commutes_5 : decode cX8_commutes 5 = .ok (.invokestatic 130, 3) := by decide +kernel
theorem dX8_commutes_8 : decode cX8_commutes 8 = .ok (.aload_n 2, 1) := by decide +kernel
theorem dX8_commutes_9 : decode cX8_commutes 9 = .ok (.aload_n 0, 1) := by decide +kernel
theorem dX8_commutes_10 : decode cX8_commutes 10 = .ok (.getfield 28, 3) := by decide +kernel
theorem dX8_commutes_13 : decode cX8_commutes 13 = .ok (.invokestatic 130, 3) := by decide +kernel
theorem dX8_commutes_16 : decode cX8_commutes 16 = .ok (.iconst 0, 1) := by decide +kernel
theorem dX8_commutes_17 : decode cX8_commutes 17 = .ok (.istore 4, 2) := by decide +kernel
theorem dX8_commutes_19 : decode cX8_commutes 19 = .ok (.iload 4, 2) := by decide +kernel
theorem dX8_commutes_21 : decode cX8_commutes 21 = .ok (.bipush 10, 2) := by decide +kernel
theorem dX8_commutes_23 : decode cX8_commutes 23 = .ok (.if_icmp .ge 29, 3) := by decide +kernel
theorem dX8_commutes_26 : decode cX8_commutes 26 = .ok (.aload_n 3, 1) := by decide +kernel
theorem dX8_commutes_27 : decode cX8_commutes 27 = .ok (.iload 4, 2) := by decide +kernel
theorem dX8_commutes_29 : decode cX8_commutes 29 = .ok (.aload_n 2, 1) := by decide +kernel
theorem dX8_commutes_30 : decode cX8_commutes 30 = .ok (.aload_n 1, 1) := by decide +kernel
theorem dX8_commutes_31 : decode cX8_commutes 31 = .ok (.aload_n 0, 1) := by decide +kernel
theorem dX8_commutes_32 : decode cX8_commutes 32 = .ok (.getfield 28, 3) := by decide +kernel
theorem dX8_commutes_35 : decode cX8_commutes 35 = .ok (.aload_n 0, 1) := by decide +kernel
theorem dX8_commutes_36 : decode cX8_commutes 36 = .ok (.getfield 25, 3) := by decide +kernel
theorem dX8_commutes_39 : decode cX8_commutes 39 = .ok (.iload 4, 2) := by decide +kernel
theorem dX8_commutes_41 : decode cX8_commutes 41 = .ok (.iaload, 1) := by decide +kernel
theorem dX8_commutes_42 : decode cX8_commutes 42 = .ok (.iaload, 1) := by decide +kernel
theorem dX8_commutes_43 : decode cX8_commutes 43 = .ok (.iaload, 1) := by decide +kernel
theorem dX8_commutes_44 : decode cX8_commutes 44 = .ok (.iaload, 1) := by decide +kernel
theorem dX8_commutes_45 : decode cX8_commutes 45 = .ok (.iastore, 1) := by decide +kernel
theorem dX8_commutes_46 : decode cX8_commutes 46 = .ok (.iinc 4 1, 3) := by decide +kernel
theorem dX8_commutes_49 : decode cX8_commutes 49 = .ok (.goto (-30), 3) := by decide +kernel
theorem dX8_commutes_52 : decode cX8_commutes 52 = .ok (.return_, 1) := by decide +kernel
theorem dX8_commutator_0 : decode cX8_commutator 0 = .ok (.aload_n 0, 1) := by decide +kernel
theorem dX8_commutator_1 : decode cX8_commutator 1 = .ok (.aload_n 0, 1) := by decide +kernel
theorem dX8_commutator_2 : decode cX8_commutator 2 = .ok (.lload_n 1, 1) := by decide +kernel
theorem dX8_commutator_3 : decode cX8_commutator 3 = .ok (.aload_n 0, 1) := by decide +kernel
theorem dX8_commutator_4 : decode cX8_commutator 4 = .ok (.getfield 16, 3) := by decide +kernel
theorem dX8_commutator_7 : decode cX8_commutator 7 = .ok (.invokevirtual 217, 3) := by decide +kernel
theorem dX8_commutator_10 : decode cX8_commutator 10 = .ok (.ifCond .eq 19, 3) := by decide +kernel
theorem dX8_commutator_13 : decode cX8_commutator 13 = .ok (.aload_n 0, 1) := by decide +kernel
theorem dX8_commutator_14 : decode cX8_commutator 14 = .ok (.lload_n 3, 1) := by decide +kernel
theorem dX8_commutator_15 : decode cX8_commutator 15 = .ok (.aload_n 0, 1) := by decide +kernel
theorem dX8_commutator_16 : decode cX8_commutator 16 = .ok (.getfield 19, 3) := by decide +kernel
theorem dX8_commutator_19 : decode cX8_commutator 19 = .ok (.invokevirtual 217, 3) := by decide +kernel
theorem dX8_commutator_22 : decode cX8_commutator 22 = .ok (.ifCond .eq 7, 3) := by decide +kernel
theorem dX8_commutator_25 : decode cX8_commutator 25 = .ok (.iconst 0, 1) := by decide +kernel
theorem dX8_commutator_26 : decode cX8_commutator 26 = .ok (.goto 4, 3) := by decide +kernel
theorem dX8_commutator_29 : decode cX8_commutator 29 = .ok (.iconst 1, 1) := by decide +kernel
theorem dX8_commutator_30 : decode cX8_commutator 30 = .ok (.invokevirtual 194, 3) := by decide +kernel
theorem dX8_commutator_33 : decode cX8_commutator 33 = .ok (.ifCond .ne 7, 3) := by decide +kernel
theorem dX8_commutator_36 : decode cX8_commutator 36 = .ok (.ldc2_w 208, 3) := by decide +kernel
theorem dX8_commutator_39 : decode cX8_commutator 39 = .ok (.lreturn, 1) := by decide +kernel
theorem dX8_commutator_40 : decode cX8_commutator 40 = .ok (.aload_n 0, 1) := by decide +kernel
theorem dX8_commutator_41 : decode cX8_commutator 41 = .ok (.aload_n 0, 1) := by decide +kernel
theorem dX8_commutator_42 : decode cX8_commutator 42 = .ok (.getfield 16, 3) := by decide +kernel
theorem dX8_commutator_45 : decode cX8_commutator 45 = .ok (.aload_n 0, 1) := by decide +kernel
theorem dX8_commutator_46 : decode cX8_commutator 46 = .ok (.getfield 19, 3) := by decide +kernel
theorem dX8_commutator_49 : decode cX8_commutator 49 = .ok (.aload_n 0, 1) := by decide +kernel
theorem dX8_commutator_50 : decode cX8_commutator 50 = .ok (.getfield 22, 3) := by decide +kernel
theorem dX8_commutator_53 : decode cX8_commutator 53 = .ok (.invokevirtual 330, 3) := by decide +kernel
theorem dX8_commutator_56 : decode cX8_commutator 56 = .ok (.aload_n 0, 1) := by decide +kernel
theorem dX8_commutator_57 : decode cX8_commutator 57 = .ok (.aload_n 0, 1) := by decide +kernel
theorem dX8_commutator_58 : decode cX8_commutator 58 = .ok (.getfield 22, 3) := by decide +kernel
theorem dX8_commutator_61 : decode cX8_commutator 61 = .ok (.invokevirtual 213, 3) := by decide +kernel
theorem dX8_commutator_64 : decode cX8_commutator 64 = .ok (.lreturn, 1) := by decide +kernel
theorem dX8_turned_0 : decode cX8_turned 0 = .ok (.aload_n 0, 1) := by decide +kernel
theorem dX8_turned_1 : decode cX8_turned 1 = .ok (.aload_n 0, 1) := by decide +kernel
theorem dX8_turned_2 : decode cX8_turned 2 = .ok (.lload_n 1, 1) := by decide +kernel
theorem dX8_turned_3 : decode cX8_turned 3 = .ok (.aload_n 0, 1) := by decide +kernel
theorem dX8_turned_4 : decode cX8_turned 4 = .ok (.getfield 16, 3) := by decide +kernel
theorem dX8_turned_7 : decode cX8_turned 7 = .ok (.invokevirtual 217, 3) := by decide +kernel
theorem dX8_turned_10 : decode cX8_turned 10 = .ok (.ifCond .eq 19, 3) := by decide +kernel
theorem dX8_turned_13 : decode cX8_turned 13 = .ok (.aload_n 0, 1) := by decide +kernel
theorem dX8_turned_14 : decode cX8_turned 14 = .ok (.lload_n 3, 1) := by decide +kernel
theorem dX8_turned_15 : decode cX8_turned 15 = .ok (.aload_n 0, 1) := by decide +kernel
theorem dX8_turned_16 : decode cX8_turned 16 = .ok (.getfield 19, 3) := by decide +kernel
theorem dX8_turned_19 : decode cX8_turned 19 = .ok (.invokevirtual 217, 3) := by decide +kernel
theorem dX8_turned_22 : decode cX8_turned 22 = .ok (.ifCond .eq 7, 3) := by decide +kernel
theorem dX8_turned_25 : decode cX8_turned 25 = .ok (.iconst 0, 1) := by decide +kernel
theorem dX8_turned_26 : decode cX8_turned 26 = .ok (.goto 4, 3) := by decide +kernel
theorem dX8_turned_29 : decode cX8_turned 29 = .ok (.iconst 1, 1) := by decide +kernel
theorem dX8_turned_30 : decode cX8_turned 30 = .ok (.invokevirtual 194, 3) := by decide +kernel
theorem dX8_turned_33 : decode cX8_turned 33 = .ok (.ifCond .ne 7, 3) := by decide +kernel
theorem dX8_turned_36 : decode cX8_turned 36 = .ok (.ldc2_w 208, 3) := by decide +kernel
theorem dX8_turned_39 : decode cX8_turned 39 = .ok (.lreturn, 1) := by decide +kernel
theorem dX8_turned_40 : decode cX8_turned 40 = .ok (.aload_n 0, 1) := by decide +kernel
theorem dX8_turned_41 : decode cX8_turned 41 = .ok (.aload_n 0, 1) := by decide +kernel
theorem dX8_turned_42 : decode cX8_turned 42 = .ok (.getfield 16, 3) := by decide +kernel
theorem dX8_turned_45 : decode cX8_turned 45 = .ok (.aload_n 0, 1) := by decide +kernel
theorem dX8_turned_46 : decode cX8_turned 46 = .ok (.getfield 19, 3) := by decide +kernel
theorem dX8_turned_49 : decode cX8_turned 49 = .ok (.aload_n 0, 1) := by decide +kernel
theorem dX8_turned_50 : decode cX8_turned 50 = .ok (.getfield 22, 3) := by decide +kernel
theorem dX8_turned_53 : decode cX8_turned 53 = .ok (.invokevirtual 318, 3) := by decide +kernel
theorem dX8_turned_56 : decode cX8_turned 56 = .ok (.aload_n 0, 1) := by decide +kernel
theorem dX8_turned_57 : decode cX8_turned 57 = .ok (.aload_n 0, 1) := by decide +kernel
theorem dX8_turned_58 : decode cX8_turned 58 = .ok (.getfield 22, 3) := by decide +kernel
theorem dX8_turned_61 : decode cX8_turned 61 = .ok (.invokevirtual 213, 3) := by decide +kernel
theorem dX8_turned_64 : decode cX8_turned 64 = .ok (.lreturn, 1) := by decide +kernel
theorem dX8_isOwn_0 : decode cX8_isOwn 0 = .ok (.iload_n 0, 1) := by decide +kernel
theorem dX8_isOwn_1 : decode cX8_isOwn 1 = .ok (.bipush 10, 2) := by decide +kernel
theorem dX8_isOwn_3 : decode cX8_isOwn 3 = .ok (.idiv, 1) := by decide +kernel
theorem dX8_isOwn_4 : decode cX8_isOwn 4 = .ok (.iload_n 0, 1) := by decide +kernel
theorem dX8_isOwn_5 : decode cX8_isOwn 5 = .ok (.bipush 10, 2) := by decide +kernel
theorem dX8_isOwn_7 : decode cX8_isOwn 7 = .ok (.irem, 1) := by decide +kernel
theorem dX8_isOwn_8 : decode cX8_isOwn 8 = .ok (.if_icmp .eq 7, 3) := by decide +kernel
theorem dX8_isOwn_11 : decode cX8_isOwn 11 = .ok (.iconst 1, 1) := by decide +kernel
theorem dX8_isOwn_12 : decode cX8_isOwn 12 = .ok (.goto 4, 3) := by decide +kernel
theorem dX8_isOwn_15 : decode cX8_isOwn 15 = .ok (.iconst 0, 1) := by decide +kernel
theorem dX8_isOwn_16 : decode cX8_isOwn 16 = .ok (.ireturn, 1) := by decide +kernel
theorem dX8_copiesSlot_0 : decode cX8_copiesSlot 0 = .ok (.iconst 0, 1) := by decide +kernel
theorem dX8_copiesSlot_1 : decode cX8_copiesSlot 1 = .ok (.istore_n 3, 1) := by decide +kernel
theorem dX8_copiesSlot_2 : decode cX8_copiesSlot 2 = .ok (.iload_n 3, 1) := by decide +kernel
theorem dX8_copiesSlot_3 : decode cX8_copiesSlot 3 = .ok (.bipush 100, 2) := by decide +kernel
theorem dX8_copiesSlot_5 : decode cX8_copiesSlot 5 = .ok (.if_icmp .ge 31, 3) := by decide +kernel
theorem dX8_copiesSlot_8 : decode cX8_copiesSlot 8 = .ok (.aload_n 0, 1) := by decide +kernel
theorem dX8_copiesSlot_9 : decode cX8_copiesSlot 9 = .ok (.getfield 34, 3) := by decide +kernel
theorem dX8_copiesSlot_12 : decode cX8_copiesSlot 12 = .ok (.bipush 100, 2) := by decide +kernel
theorem dX8_copiesSlot_14 : decode cX8_copiesSlot 14 = .ok (.iload_n 2, 1) := by decide +kernel
theorem dX8_copiesSlot_15 : decode cX8_copiesSlot 15 = .ok (.imul, 1) := by decide +kernel
theorem dX8_copiesSlot_16 : decode cX8_copiesSlot 16 = .ok (.iload_n 3, 1) := by decide +kernel
theorem dX8_copiesSlot_17 : decode cX8_copiesSlot 17 = .ok (.iadd, 1) := by decide +kernel
theorem dX8_copiesSlot_18 : decode cX8_copiesSlot 18 = .ok (.aload_n 0, 1) := by decide +kernel
theorem dX8_copiesSlot_19 : decode cX8_copiesSlot 19 = .ok (.getfield 34, 3) := by decide +kernel
theorem dX8_copiesSlot_22 : decode cX8_copiesSlot 22 = .ok (.bipush 100, 2) := by decide +kernel
theorem dX8_copiesSlot_24 : decode cX8_copiesSlot 24 = .ok (.iload_n 1, 1) := by decide +kernel
theorem dX8_copiesSlot_25 : decode cX8_copiesSlot 25 = .ok (.imul, 1) := by decide +kernel
theorem dX8_copiesSlot_26 : decode cX8_copiesSlot 26 = .ok (.iload_n 3, 1) := by decide +kernel
theorem dX8_copiesSlot_27 : decode cX8_copiesSlot 27 = .ok (.iadd, 1) := by decide +kernel
theorem dX8_copiesSlot_28 : decode cX8_copiesSlot 28 = .ok (.baload, 1) := by decide +kernel
theorem dX8_copiesSlot_29 : decode cX8_copiesSlot 29 = .ok (.bastore, 1) := by decide +kernel
theorem dX8_copiesSlot_30 : decode cX8_copiesSlot 30 = .ok (.iinc 3 1, 3) := by decide +kernel
theorem dX8_copiesSlot_33 : decode cX8_copiesSlot 33 = .ok (.goto (-31), 3) := by decide +kernel
theorem dX8_copiesSlot_36 : decode cX8_copiesSlot 36 = .ok (.iconst 0, 1) := by decide +kernel
theorem dX8_copiesSlot_37 : decode cX8_copiesSlot 37 = .ok (.istore_n 3, 1) := by decide +kernel
theorem dX8_copiesSlot_38 : decode cX8_copiesSlot 38 = .ok (.iload_n 3, 1) := by decide +kernel
theorem dX8_copiesSlot_39 : decode cX8_copiesSlot 39 = .ok (.sipush 1000, 3) := by decide +kernel
theorem dX8_copiesSlot_42 : decode cX8_copiesSlot 42 = .ok (.if_icmp .ge 33, 3) := by decide +kernel
theorem dX8_copiesSlot_45 : decode cX8_copiesSlot 45 = .ok (.aload_n 0, 1) := by decide +kernel
theorem dX8_copiesSlot_46 : decode cX8_copiesSlot 46 = .ok (.getfield 38, 3) := by decide +kernel
theorem dX8_copiesSlot_49 : decode cX8_copiesSlot 49 = .ok (.sipush 1000, 3) := by decide +kernel
theorem dX8_copiesSlot_52 : decode cX8_copiesSlot 52 = .ok (.iload_n 2, 1) := by decide +kernel
theorem dX8_copiesSlot_53 : decode cX8_copiesSlot 53 = .ok (.imul, 1) := by decide +kernel
theorem dX8_copiesSlot_54 : decode cX8_copiesSlot 54 = .ok (.iload_n 3, 1) := by decide +kernel
theorem dX8_copiesSlot_55 : decode cX8_copiesSlot 55 = .ok (.iadd, 1) := by decide +kernel
theorem dX8_copiesSlot_56 : decode cX8_copiesSlot 56 = .ok (.aload_n 0, 1) := by decide +kernel
theorem dX8_copiesSlot_57 : decode cX8_copiesSlot 57 = .ok (.getfield 38, 3) := by decide +kernel
theorem dX8_copiesSlot_60 : decode cX8_copiesSlot 60 = .ok (.sipush 1000, 3) := by decide +kernel
theorem dX8_copiesSlot_63 : decode cX8_copiesSlot 63 = .ok (.iload_n 1, 1) := by decide +kernel
theorem dX8_copiesSlot_64 : decode cX8_copiesSlot 64 = .ok (.imul, 1) := by decide +kernel
theorem dX8_copiesSlot_65 : decode cX8_copiesSlot 65 = .ok (.iload_n 3, 1) := by decide +kernel
theorem dX8_copiesSlot_66 : decode cX8_copiesSlot 66 = .ok (.iadd, 1) := by decide +kernel
theorem dX8_copiesSlot_67 : decode cX8_copiesSlot 67 = .ok (.iaload, 1) := by decide +kernel
theorem dX8_copiesSlot_68 : decode cX8_copiesSlot 68 = .ok (.iastore, 1) := by decide +kernel
theorem dX8_copiesSlot_69 : decode cX8_copiesSlot 69 = .ok (.iinc 3 1, 3) := by decide +kernel
theorem dX8_copiesSlot_72 : decode cX8_copiesSlot 72 = .ok (.goto (-34), 3) := by decide +kernel
theorem dX8_copiesSlot_75 : decode cX8_copiesSlot 75 = .ok (.return_, 1) := by decide +kernel
theorem dX8_laysCommutators_0 : decode cX8_laysCommutators 0 = .ok (.aload_n 0, 1) := by decide +kernel
theorem dX8_laysCommutators_1 : decode cX8_laysCommutators 1 = .ok (.iload_n 3, 1) := by decide +kernel
theorem dX8_laysCommutators_2 : decode cX8_laysCommutators 2 = .ok (.invokevirtual 154, 3) := by decide +kernel
theorem dX8_laysCommutators_5 : decode cX8_laysCommutators 5 = .ok (.iconst 0, 1) := by decide +kernel
theorem dX8_laysCommutators_6 : decode cX8_laysCommutators 6 = .ok (.istore 4, 2) := by decide +kernel
theorem dX8_laysCommutators_8 : decode cX8_laysCommutators 8 = .ok (.iload 4, 2) := by decide +kernel
theorem dX8_laysCommutators_10 : decode cX8_laysCommutators 10 = .ok (.bipush 100, 2) := by decide +kernel
theorem dX8_laysCommutators_12 : decode cX8_laysCommutators 12 = .ok (.if_icmp .ge 140, 3) := by decide +kernel
theorem dX8_laysCommutators_15 : decode cX8_laysCommutators 15 = .ok (.aload_n 0, 1) := by decide +kernel
theorem dX8_laysCommutators_16 : decode cX8_laysCommutators 16 = .ok (.getfield 34, 3) := by decide +kernel
theorem dX8_laysCommutators_19 : decode cX8_laysCommutators 19 = .ok (.bipush 100, 2) := by decide +kernel
theorem dX8_laysCommutators_21 : decode cX8_laysCommutators 21 = .ok (.iload_n 1, 1) := by decide +kernel
theorem dX8_laysCommutators_22 : decode cX8_laysCommutators 22 = .ok (.imul, 1) := by decide +kernel
theorem dX8_laysCommutators_23 : decode cX8_laysCommutators 23 = .ok (.iload 4, 2) := by decide +kernel
theorem dX8_laysCommutators_25 : decode cX8_laysCommutators 25 = .ok (.iadd, 1) := by decide +kernel
theorem dX8_laysCommutators_26 : decode cX8_laysCommutators 26 = .ok (.baload, 1) := by decide +kernel
theorem dX8_laysCommutators_27 : decode cX8_laysCommutators 27 = .ok (.ifCond .eq 119, 3) := by decide +kernel
theorem dX8_laysCommutators_30 : decode cX8_laysCommutators 30 = .ok (.iload 4, 2) := by decide +kernel
theorem dX8_laysCommutators_32 : decode cX8_laysCommutators 32 = .ok (.invokestatic 333, 3) := by decide +kernel
theorem dX8_laysCommutators_35 : decode cX8_laysCommutators 35 = .ok (.ifCond .ne 6, 3) := by decide +kernel
theorem dX8_laysCommutators_38 : decode cX8_laysCommutators 38 = .ok (.goto 108, 3) := by decide +kernel
theorem dX8_laysCommutators_41 : decode cX8_laysCommutators 41 = .ok (.iconst 0, 1) := by decide +kernel
theorem dX8_laysCommutators_42 : decode cX8_laysCommutators 42 = .ok (.istore 5, 2) := by decide +kernel
theorem dX8_laysCommutators_44 : decode cX8_laysCommutators 44 = .ok (.iload 5, 2) := by decide +kernel
theorem dX8_laysCommutators_46 : decode cX8_laysCommutators 46 = .ok (.bipush 100, 2) := by decide +kernel
theorem dX8_laysCommutators_48 : decode cX8_laysCommutators 48 = .ok (.if_icmp .ge 98, 3) := by decide +kernel
theorem dX8_laysCommutators_51 : decode cX8_laysCommutators 51 = .ok (.aload_n 0, 1) := by decide +kernel
theorem dX8_laysCommutators_52 : decode cX8_laysCommutators 52 = .ok (.getfield 34, 3) := by decide +kernel
theorem dX8_laysCommutators_55 : decode cX8_laysCommutators 55 = .ok (.bipush 100, 2) := by decide +kernel
theorem dX8_laysCommutators_57 : decode cX8_laysCommutators 57 = .ok (.iload_n 2, 1) := by decide +kernel
theorem dX8_laysCommutators_58 : decode cX8_laysCommutators 58 = .ok (.imul, 1) := by decide +kernel
theorem dX8_laysCommutators_59 : decode cX8_laysCommutators 59 = .ok (.iload 5, 2) := by decide +kernel
theorem dX8_laysCommutators_61 : decode cX8_laysCommutators 61 = .ok (.iadd, 1) := by decide +kernel
theorem dX8_laysCommutators_62 : decode cX8_laysCommutators 62 = .ok (.baload, 1) := by decide +kernel
theorem dX8_laysCommutators_63 : decode cX8_laysCommutators 63 = .ok (.ifCond .eq 77, 3) := by decide +kernel
theorem dX8_laysCommutators_66 : decode cX8_laysCommutators 66 = .ok (.iload 5, 2) := by decide +kernel
theorem dX8_laysCommutators_68 : decode cX8_laysCommutators 68 = .ok (.invokestatic 333, 3) := by decide +kernel
theorem dX8_laysCommutators_71 : decode cX8_laysCommutators 71 = .ok (.ifCond .ne 6, 3) := by decide +kernel
theorem dX8_laysCommutators_74 : decode cX8_laysCommutators 74 = .ok (.goto 66, 3) := by decide +kernel
theorem dX8_laysCommutators_77 : decode cX8_laysCommutators 77 = .ok (.aload_n 0, 1) := by decide +kernel
theorem dX8_laysCommutators_78 : decode cX8_laysCommutators 78 = .ok (.iload_n 1, 1) := by decide +kernel
theorem dX8_laysCommutators_79 : decode cX8_laysCommutators 79 = .ok (.iload 4, 2) := by decide +kernel
theorem dX8_laysCommutators_81 : decode cX8_laysCommutators 81 = .ok (.bipush 10, 2) := by decide +kernel
theorem dX8_laysCommutators_83 : decode cX8_laysCommutators 83 = .ok (.idiv, 1) := by decide +kernel
theorem dX8_laysCommutators_84 : decode cX8_laysCommutators 84 = .ok (.iload 4, 2) := by decide +kernel
theorem dX8_laysCommutators_86 : decode cX8_laysCommutators 86 = .ok (.bipush 10, 2) := by decide +kernel
theorem dX8_laysCommutators_88 : decode cX8_laysCommutators 88 = .ok (.irem, 1) := by decide +kernel
theorem dX8_laysCommutators_89 : decode cX8_laysCommutators 89 = .ok (.aload_n 0, 1) := by decide +kernel
theorem dX8_laysCommutators_90 : decode cX8_laysCommutators 90 = .ok (.getfield 16, 3) := by decide +kernel
theorem dX8_laysCommutators_93 : decode cX8_laysCommutators 93 = .ok (.invokevirtual 134, 3) := by decide +kernel
theorem dX8_laysCommutators_96 : decode cX8_laysCommutators 96 = .ok (.aload_n 0, 1) := by decide +kernel
theorem dX8_laysCommutators_97 : decode cX8_laysCommutators 97 = .ok (.iload_n 2, 1) := by decide +kernel
theorem dX8_laysCommutators_98 : decode cX8_laysCommutators 98 = .ok (.iload 5, 2) := by decide +kernel
theorem dX8_laysCommutators_100 : decode cX8_laysCommutators 100 = .ok (.bipush 10, 2) := by decide +kernel
theorem dX8_laysCommutators_102 : decode cX8_laysCommutators 102 = .ok (.idiv, 1) := by decide +kernel
theorem dX8_laysCommutators_103 : decode cX8_laysCommutators 103 = .ok (.iload 5, 2) := by decide +kernel
theorem dX8_laysCommutators_105 : decode cX8_laysCommutators 105 = .ok (.bipush 10, 2) := by decide +kernel
theorem dX8_laysCommutators_107 : decode cX8_laysCommutators 107 = .ok (.irem, 1) := by decide +kernel
theorem dX8_laysCommutators_108 : decode cX8_laysCommutators 108 = .ok (.aload_n 0, 1) := by decide +kernel
theorem dX8_laysCommutators_109 : decode cX8_laysCommutators 109 = .ok (.getfield 19, 3) := by decide +kernel
theorem dX8_laysCommutators_112 : decode cX8_laysCommutators 112 = .ok (.invokevirtual 134, 3) := by decide +kernel
theorem dX8_laysCommutators_115 : decode cX8_laysCommutators 115 = .ok (.aload_n 0, 1) := by decide +kernel
theorem dX8_laysCommutators_116 : decode cX8_laysCommutators 116 = .ok (.aload_n 0, 1) := by decide +kernel
theorem dX8_laysCommutators_117 : decode cX8_laysCommutators 117 = .ok (.getfield 16, 3) := by decide +kernel
theorem dX8_laysCommutators_120 : decode cX8_laysCommutators 120 = .ok (.aload_n 0, 1) := by decide +kernel
theorem dX8_laysCommutators_121 : decode cX8_laysCommutators 121 = .ok (.getfield 19, 3) := by decide +kernel
theorem dX8_laysCommutators_124 : decode cX8_laysCommutators 124 = .ok (.aload_n 0, 1) := by decide +kernel
theorem dX8_laysCommutators_125 : decode cX8_laysCommutators 125 = .ok (.getfield 22, 3) := by decide +kernel
theorem dX8_laysCommutators_128 : decode cX8_laysCommutators 128 = .ok (.invokevirtual 330, 3) := by decide +kernel
theorem dX8_laysCommutators_131 : decode cX8_laysCommutators 131 = .ok (.aload_n 0, 1) := by decide +kernel
theorem dX8_laysCommutators_132 : decode cX8_laysCommutators 132 = .ok (.iload_n 3, 1) := by decide +kernel
theorem dX8_laysCommutators_133 : decode cX8_laysCommutators 133 = .ok (.aload_n 0, 1) := by decide +kernel
theorem dX8_laysCommutators_134 : decode cX8_laysCommutators 134 = .ok (.getfield 22, 3) := by decide +kernel
theorem dX8_laysCommutators_137 : decode cX8_laysCommutators 137 = .ok (.invokevirtual 161, 3) := by decide +kernel
theorem dX8_laysCommutators_140 : decode cX8_laysCommutators 140 = .ok (.iinc 5 1, 3) := by decide +kernel
theorem dX8_laysCommutators_143 : decode cX8_laysCommutators 143 = .ok (.goto (-99), 3) := by decide +kernel
theorem dX8_laysCommutators_146 : decode cX8_laysCommutators 146 = .ok (.iinc 4 1, 3) := by decide +kernel
theorem dX8_laysCommutators_149 : decode cX8_laysCommutators 149 = .ok (.goto (-141), 3) := by decide +kernel
theorem dX8_laysCommutators_152 : decode cX8_laysCommutators 152 = .ok (.iconst 1, 1) := by decide +kernel
theorem dX8_laysCommutators_153 : decode cX8_laysCommutators 153 = .ok (.istore 4, 2) := by decide +kernel
theorem dX8_laysCommutators_155 : decode cX8_laysCommutators 155 = .ok (.iload 4, 2) := by decide +kernel
theorem dX8_laysCommutators_157 : decode cX8_laysCommutators 157 = .ok (.ifCond .eq 174, 3) := by decide +kernel
theorem dX8_laysCommutators_160 : decode cX8_laysCommutators 160 = .ok (.iconst 0, 1) := by decide +kernel
theorem dX8_laysCommutators_161 : decode cX8_laysCommutators 161 = .ok (.istore 4, 2) := by decide +kernel
theorem dX8_laysCommutators_163 : decode cX8_laysCommutators 163 = .ok (.iconst 0, 1) := by decide +kernel
theorem dX8_laysCommutators_164 : decode cX8_laysCommutators 164 = .ok (.istore 5, 2) := by decide +kernel
theorem dX8_laysCommutators_166 : decode cX8_laysCommutators 166 = .ok (.iload 5, 2) := by decide +kernel
theorem dX8_laysCommutators_168 : decode cX8_laysCommutators 168 = .ok (.bipush 100, 2) := by decide +kernel
theorem dX8_laysCommutators_170 : decode cX8_laysCommutators 170 = .ok (.if_icmp .ge 158, 3) := by decide +kernel
theorem dX8_laysCommutators_173 : decode cX8_laysCommutators 173 = .ok (.aload_n 0, 1) := by decide +kernel
theorem dX8_laysCommutators_174 : decode cX8_laysCommutators 174 = .ok (.getfield 34, 3) := by decide +kernel
theorem dX8_laysCommutators_177 : decode cX8_laysCommutators 177 = .ok (.bipush 100, 2) := by decide +kernel
theorem dX8_laysCommutators_179 : decode cX8_laysCommutators 179 = .ok (.iload_n 3, 1) := by decide +kernel
theorem dX8_laysCommutators_180 : decode cX8_laysCommutators 180 = .ok (.imul, 1) := by decide +kernel
theorem dX8_laysCommutators_181 : decode cX8_laysCommutators 181 = .ok (.iload 5, 2) := by decide +kernel
theorem dX8_laysCommutators_183 : decode cX8_laysCommutators 183 = .ok (.iadd, 1) := by decide +kernel
theorem dX8_laysCommutators_184 : decode cX8_laysCommutators 184 = .ok (.baload, 1) := by decide +kernel
theorem dX8_laysCommutators_185 : decode cX8_laysCommutators 185 = .ok (.ifCond .eq 137, 3) := by decide +kernel
theorem dX8_laysCommutators_188 : decode cX8_laysCommutators 188 = .ok (.iload 5, 2) := by decide +kernel
theorem dX8_laysCommutators_190 : decode cX8_laysCommutators 190 = .ok (.invokestatic 333, 3) := by decide +kernel
theorem dX8_laysCommutators_193 : decode cX8_laysCommutators 193 = .ok (.ifCond .ne 6, 3) := by decide +kernel
theorem dX8_laysCommutators_196 : decode cX8_laysCommutators 196 = .ok (.goto 126, 3) := by decide +kernel
theorem dX8_laysCommutators_199 : decode cX8_laysCommutators 199 = .ok (.iconst 0, 1) := by decide +kernel
theorem dX8_laysCommutators_200 : decode cX8_laysCommutators 200 = .ok (.istore 6, 2) := by decide +kernel
theorem dX8_laysCommutators_202 : decode cX8_laysCommutators 202 = .ok (.iload 6, 2) := by decide +kernel
theorem dX8_laysCommutators_204 : decode cX8_laysCommutators 204 = .ok (.bipush 100, 2) := by decide +kernel
theorem dX8_laysCommutators_206 : decode cX8_laysCommutators 206 = .ok (.if_icmp .ge 116, 3) := by decide +kernel
theorem dX8_laysCommutators_209 : decode cX8_laysCommutators 209 = .ok (.aload_n 0, 1) := by decide +kernel
theorem dX8_laysCommutators_210 : decode cX8_laysCommutators 210 = .ok (.getfield 34, 3) := by decide +kernel
theorem dX8_laysCommutators_213 : decode cX8_laysCommutators 213 = .ok (.bipush 100, 2) := by decide +kernel
theorem dX8_laysCommutators_215 : decode cX8_laysCommutators 215 = .ok (.iload_n 2, 1) := by decide +kernel
theorem dX8_laysCommutators_216 : decode cX8_laysCommutators 216 = .ok (.imul, 1) := by decide +kernel
theorem dX8_laysCommutators_217 : decode cX8_laysCommutators 217 = .ok (.iload 6, 2) := by decide +kernel
theorem dX8_laysCommutators_219 : decode cX8_laysCommutators 219 = .ok (.iadd, 1) := by decide +kernel
theorem dX8_laysCommutators_220 : decode cX8_laysCommutators 220 = .ok (.baload, 1) := by decide +kernel
theorem dX8_laysCommutators_221 : decode cX8_laysCommutators 221 = .ok (.ifCond .eq 95, 3) := by decide +kernel
theorem dX8_laysCommutators_224 : decode cX8_laysCommutators 224 = .ok (.iload 6, 2) := by decide +kernel
theorem dX8_laysCommutators_226 : decode cX8_laysCommutators 226 = .ok (.invokestatic 333, 3) := by decide +kernel
theorem dX8_laysCommutators_229 : decode cX8_laysCommutators 229 = .ok (.ifCond .ne 6, 3) := by decide +kernel
theorem dX8_laysCommutators_232 : decode cX8_laysCommutators 232 = .ok (.goto 84, 3) := by decide +kernel
theorem dX8_laysCommutators_235 : decode cX8_laysCommutators 235 = .ok (.aload_n 0, 1) := by decide +kernel
theorem dX8_laysCommutators_236 : decode cX8_laysCommutators 236 = .ok (.iload_n 3, 1) := by decide +kernel
theorem dX8_laysCommutators_237 : decode cX8_laysCommutators 237 = .ok (.iload 5, 2) := by decide +kernel
theorem dX8_laysCommutators_239 : decode cX8_laysCommutators 239 = .ok (.bipush 10, 2) := by decide +kernel
theorem dX8_laysCommutators_241 : decode cX8_laysCommutators 241 = .ok (.idiv, 1) := by decide +kernel
theorem dX8_laysCommutators_242 : decode cX8_laysCommutators 242 = .ok (.iload 5, 2) := by decide +kernel
theorem dX8_laysCommutators_244 : decode cX8_laysCommutators 244 = .ok (.bipush 10, 2) := by decide +kernel
theorem dX8_laysCommutators_246 : decode cX8_laysCommutators 246 = .ok (.irem, 1) := by decide +kernel
theorem dX8_laysCommutators_247 : decode cX8_laysCommutators 247 = .ok (.aload_n 0, 1) := by decide +kernel
theorem dX8_laysCommutators_248 : decode cX8_laysCommutators 248 = .ok (.getfield 16, 3) := by decide +kernel
theorem dX8_laysCommutators_251 : decode cX8_laysCommutators 251 = .ok (.invokevirtual 134, 3) := by decide +kernel
theorem dX8_laysCommutators_254 : decode cX8_laysCommutators 254 = .ok (.aload_n 0, 1) := by decide +kernel
theorem dX8_laysCommutators_255 : decode cX8_laysCommutators 255 = .ok (.iload_n 2, 1) := by decide +kernel
theorem dX8_laysCommutators_256 : decode cX8_laysCommutators 256 = .ok (.iload 6, 2) := by decide +kernel
theorem dX8_laysCommutators_258 : decode cX8_laysCommutators 258 = .ok (.bipush 10, 2) := by decide +kernel
theorem dX8_laysCommutators_260 : decode cX8_laysCommutators 260 = .ok (.idiv, 1) := by decide +kernel
theorem dX8_laysCommutators_261 : decode cX8_laysCommutators 261 = .ok (.iload 6, 2) := by decide +kernel
theorem dX8_laysCommutators_263 : decode cX8_laysCommutators 263 = .ok (.bipush 10, 2) := by decide +kernel
theorem dX8_laysCommutators_265 : decode cX8_laysCommutators 265 = .ok (.irem, 1) := by decide +kernel
theorem dX8_laysCommutators_266 : decode cX8_laysCommutators 266 = .ok (.aload_n 0, 1) := by decide +kernel
theorem dX8_laysCommutators_267 : decode cX8_laysCommutators 267 = .ok (.getfield 19, 3) := by decide +kernel
theorem dX8_laysCommutators_270 : decode cX8_laysCommutators 270 = .ok (.invokevirtual 134, 3) := by decide +kernel
theorem dX8_laysCommutators_273 : decode cX8_laysCommutators 273 = .ok (.aload_n 0, 1) := by decide +kernel
theorem dX8_laysCommutators_274 : decode cX8_laysCommutators 274 = .ok (.aload_n 0, 1) := by decide +kernel
theorem dX8_laysCommutators_275 : decode cX8_laysCommutators 275 = .ok (.getfield 16, 3) := by decide +kernel
theorem dX8_laysCommutators_278 : decode cX8_laysCommutators 278 = .ok (.aload_n 0, 1) := by decide +kernel
theorem dX8_laysCommutators_279 : decode cX8_laysCommutators 279 = .ok (.getfield 19, 3) := by decide +kernel
theorem dX8_laysCommutators_282 : decode cX8_laysCommutators 282 = .ok (.aload_n 0, 1) := by decide +kernel
theorem dX8_laysCommutators_283 : decode cX8_laysCommutators 283 = .ok (.getfield 22, 3) := by decide +kernel
theorem dX8_laysCommutators_286 : decode cX8_laysCommutators 286 = .ok (.invokevirtual 318, 3) := by decide +kernel
theorem dX8_laysCommutators_289 : decode cX8_laysCommutators 289 = .ok (.aload_n 0, 1) := by decide +kernel
theorem dX8_laysCommutators_290 : decode cX8_laysCommutators 290 = .ok (.iload_n 3, 1) := by decide +kernel
theorem dX8_laysCommutators_291 : decode cX8_laysCommutators 291 = .ok (.aload_n 0, 1) := by decide +kernel
theorem dX8_laysCommutators_292 : decode cX8_laysCommutators 292 = .ok (.getfield 22, 3) := by decide +kernel
theorem dX8_laysCommutators_295 : decode cX8_laysCommutators 295 = .ok (.invokevirtual 275, 3) := by decide +kernel
theorem dX8_laysCommutators_298 : decode cX8_laysCommutators 298 = .ok (.ifCond .eq 6, 3) := by decide +kernel
theorem dX8_laysCommutators_301 : decode cX8_laysCommutators 301 = .ok (.goto 15, 3) := by decide +kernel
theorem dX8_laysCommutators_304 : decode cX8_laysCommutators 304 = .ok (.aload_n 0, 1) := by decide +kernel
theorem dX8_laysCommutators_305 : decode cX8_laysCommutators 305 = .ok (.iload_n 3, 1) := by decide +kernel
theorem dX8_laysCommutators_306 : decode cX8_laysCommutators 306 = .ok (.aload_n 0, 1) := by decide +kernel
theorem dX8_laysCommutators_307 : decode cX8_laysCommutators 307 = .ok (.getfield 22, 3) := by decide +kernel
theorem dX8_laysCommutators_310 : decode cX8_laysCommutators 310 = .ok (.invokevirtual 161, 3) := by decide +kernel
theorem dX8_laysCommutators_313 : decode cX8_laysCommutators 313 = .ok (.iconst 1, 1) := by decide +kernel
theorem dX8_laysCommutators_314 : decode cX8_laysCommutators 314 = .ok (.istore 4, 2) := by decide +kernel
theorem dX8_laysCommutators_316 : decode cX8_laysCommutators 316 = .ok (.iinc 6 1, 3) := by decide +kernel
theorem dX8_laysCommutators_319 : decode cX8_laysCommutators 319 = .ok (.goto (-117), 3) := by decide +kernel
theorem dX8_laysCommutators_322 : decode cX8_laysCommutators 322 = .ok (.iinc 5 1, 3) := by decide +kernel
theorem dX8_laysCommutators_325 : decode cX8_laysCommutators 325 = .ok (.goto (-159), 3) := by decide +kernel
theorem dX8_laysCommutators_328 : decode cX8_laysCommutators 328 = .ok (.goto (-173), 3) := by decide +kernel
theorem dX8_laysCommutators_331 : decode cX8_laysCommutators 331 = .ok (.return_, 1) := by decide +kernel
theorem dX8_chainAt_0 : decode cX8_chainAt 0 = .ok (.aload_n 0, 1) := by decide +kernel
theorem dX8_chainAt_1 : decode cX8_chainAt 1 = .ok (.invokevirtual 179, 3) := by decide +kernel
theorem dX8_chainAt_4 : decode cX8_chainAt 4 = .ok (.aload_n 0, 1) := by decide +kernel
theorem dX8_chainAt_5 : decode cX8_chainAt 5 = .ok (.iconst 0, 1) := by decide +kernel
theorem dX8_chainAt_6 : decode cX8_chainAt 6 = .ok (.iconst 1, 1) := by decide +kernel
theorem dX8_chainAt_7 : decode cX8_chainAt 7 = .ok (.invokevirtual 336, 3) := by decide +kernel
theorem dX8_chainAt_10 : decode cX8_chainAt 10 = .ok (.iconst 0, 1) := by decide +kernel
theorem dX8_chainAt_11 : decode cX8_chainAt 11 = .ok (.istore_n 3, 1) := by decide +kernel
theorem dX8_chainAt_12 : decode cX8_chainAt 12 = .ok (.iload_n 3, 1) := by decide +kernel
theorem dX8_chainAt_13 : decode cX8_chainAt 13 = .ok (.iload_n 1, 1) := by decide +kernel
theorem dX8_chainAt_14 : decode cX8_chainAt 14 = .ok (.if_icmp .ge 45, 3) := by decide +kernel
theorem dX8_chainAt_17 : decode cX8_chainAt 17 = .ok (.aload_n 0, 1) := by decide +kernel
theorem dX8_chainAt_18 : decode cX8_chainAt 18 = .ok (.iconst 1, 1) := by decide +kernel
theorem dX8_chainAt_19 : decode cX8_chainAt 19 = .ok (.iload_n 2, 1) := by decide +kernel
theorem dX8_chainAt_20 : decode cX8_chainAt 20 = .ok (.ifCond .eq 7, 3) := by decide +kernel
theorem dX8_chainAt_23 : decode cX8_chainAt 23 = .ok (.iconst 1, 1) := by decide +kernel
theorem dX8_chainAt_24 : decode cX8_chainAt 24 = .ok (.goto 4, 3) := by decide +kernel
theorem dX8_chainAt_27 : decode cX8_chainAt 27 = .ok (.iconst 0, 1) := by decide +kernel
theorem dX8_chainAt_28 : decode cX8_chainAt 28 = .ok (.iconst 2, 1) := by decide +kernel
theorem dX8_chainAt_29 : decode cX8_chainAt 29 = .ok (.invokevirtual 339, 3) := by decide +kernel
theorem dX8_chainAt_32 : decode cX8_chainAt 32 = .ok (.aload_n 0, 1) := by decide +kernel
theorem dX8_chainAt_33 : decode cX8_chainAt 33 = .ok (.iconst 2, 1) := by decide +kernel
theorem dX8_chainAt_34 : decode cX8_chainAt 34 = .ok (.invokevirtual 181, 3) := by decide +kernel
theorem dX8_chainAt_37 : decode cX8_chainAt 37 = .ok (.aload_n 0, 1) := by decide +kernel
theorem dX8_chainAt_38 : decode cX8_chainAt 38 = .ok (.iconst 1, 1) := by decide +kernel
theorem dX8_chainAt_39 : decode cX8_chainAt 39 = .ok (.invokevirtual 181, 3) := by decide +kernel
theorem dX8_chainAt_42 : decode cX8_chainAt 42 = .ok (.if_icmp .ne 5, 3) := by decide +kernel
theorem dX8_chainAt_45 : decode cX8_chainAt 45 = .ok (.iconst (-1), 1) := by decide +kernel
theorem dX8_chainAt_46 : decode cX8_chainAt 46 = .ok (.ireturn, 1) := by decide +kernel
theorem dX8_chainAt_47 : decode cX8_chainAt 47 = .ok (.aload_n 0, 1) := by decide +kernel
theorem dX8_chainAt_48 : decode cX8_chainAt 48 = .ok (.iconst 2, 1) := by decide +kernel
theorem dX8_chainAt_49 : decode cX8_chainAt 49 = .ok (.iconst 1, 1) := by decide +kernel
theorem dX8_chainAt_50 : decode cX8_chainAt 50 = .ok (.invokevirtual 336, 3) := by decide +kernel
theorem dX8_chainAt_53 : decode cX8_chainAt 53 = .ok (.iinc 3 1, 3) := by decide +kernel
theorem dX8_chainAt_56 : decode cX8_chainAt 56 = .ok (.goto (-44), 3) := by decide +kernel
theorem dX8_chainAt_59 : decode cX8_chainAt 59 = .ok (.aload_n 0, 1) := by decide +kernel
theorem dX8_chainAt_60 : decode cX8_chainAt 60 = .ok (.iconst 1, 1) := by decide +kernel
theorem dX8_chainAt_61 : decode cX8_chainAt 61 = .ok (.invokevirtual 181, 3) := by decide +kernel
theorem dX8_chainAt_64 : decode cX8_chainAt 64 = .ok (.ireturn, 1) := by decide +kernel
theorem dX8_derived_0 : decode cX8_derived 0 = .ok (.aload_n 0, 1) := by decide +kernel
theorem dX8_derived_1 : decode cX8_derived 1 = .ok (.aload_n 0, 1) := by decide +kernel
theorem dX8_derived_2 : decode cX8_derived 2 = .ok (.iload_n 1, 1) := by decide +kernel
theorem dX8_derived_3 : decode cX8_derived 3 = .ok (.ifCond .lt 7, 3) := by decide +kernel
theorem dX8_derived_6 : decode cX8_derived 6 = .ok (.iconst 0, 1) := by decide +kernel
theorem dX8_derived_7 : decode cX8_derived 7 = .ok (.goto 4, 3) := by decide +kernel
theorem dX8_derived_10 : decode cX8_derived 10 = .ok (.iconst 1, 1) := by decide +kernel
theorem dX8_derived_11 : decode cX8_derived 11 = .ok (.invokevirtual 260, 3) := by decide +kernel
theorem dX8_derived_14 : decode cX8_derived 14 = .ok (.invokevirtual 194, 3) := by decide +kernel
theorem dX8_derived_17 : decode cX8_derived 17 = .ok (.ifCond .eq 16, 3) := by decide +kernel
theorem dX8_derived_20 : decode cX8_derived 20 = .ok (.aload_n 0, 1) := by decide +kernel
theorem dX8_derived_21 : decode cX8_derived 21 = .ok (.aload_n 0, 1) := by decide +kernel
theorem dX8_derived_22 : decode cX8_derived 22 = .ok (.iload_n 1, 1) := by decide +kernel
theorem dX8_derived_23 : decode cX8_derived 23 = .ok (.iconst 1, 1) := by decide +kernel
theorem dX8_derived_24 : decode cX8_derived 24 = .ok (.invokevirtual 343, 3) := by decide +kernel
theorem dX8_derived_27 : decode cX8_derived 27 = .ok (.invokevirtual 272, 3) := by decide +kernel
theorem dX8_derived_30 : decode cX8_derived 30 = .ok (.goto 4, 3) := by decide +kernel
theorem dX8_derived_33 : decode cX8_derived 33 = .ok (.iconst (-1), 1) := by decide +kernel
theorem dX8_derived_34 : decode cX8_derived 34 = .ok (.ireturn, 1) := by decide +kernel
theorem dX8_central_0 : decode cX8_central 0 = .ok (.aload_n 0, 1) := by decide +kernel
theorem dX8_central_1 : decode cX8_central 1 = .ok (.aload_n 0, 1) := by decide +kernel
theorem dX8_central_2 : decode cX8_central 2 = .ok (.iload_n 1, 1) := by decide +kernel
theorem dX8_central_3 : decode cX8_central 3 = .ok (.ifCond .lt 7, 3) := by decide +kernel
theorem dX8_central_6 : decode cX8_central 6 = .ok (.iconst 0, 1) := by decide +kernel
theorem dX8_central_7 : decode cX8_central 7 = .ok (.goto 4, 3) := by decide +kernel
theorem dX8_central_10 : decode cX8_central 10 = .ok (.iconst 1, 1) := by decide +kernel
theorem dX8_central_11 : decode cX8_central 11 = .ok (.invokevirtual 260, 3) := by decide +kernel
theorem dX8_central_14 : decode cX8_central 14 = .ok (.invokevirtual 194, 3) := by decide +kernel
theorem dX8_central_17 : decode cX8_central 17 = .ok (.ifCond .eq 16, 3) := by decide +kernel
theorem dX8_central_20 : decode cX8_central 20 = .ok (.aload_n 0, 1) := by decide +kernel
theorem dX8_central_21 : decode cX8_central 21 = .ok (.aload_n 0, 1) := by decide +kernel
theorem dX8_central_22 : decode cX8_central 22 = .ok (.iload_n 1, 1) := by decide +kernel
theorem dX8_central_23 : decode cX8_central 23 = .ok (.iconst 0, 1) := by decide +kernel
theorem dX8_central_24 : decode cX8_central 24 = .ok (.invokevirtual 343, 3) := by decide +kernel
theorem dX8_central_27 : decode cX8_central 27 = .ok (.invokevirtual 272, 3) := by decide +kernel
theorem dX8_central_30 : decode cX8_central 30 = .ok (.goto 4, 3) := by decide +kernel
theorem dX8_central_33 : decode cX8_central 33 = .ok (.iconst (-1), 1) := by decide +kernel
theorem dX8_central_34 : decode cX8_central 34 = .ok (.ireturn, 1) := by decide +kernel
theorem dX8_allGo_0 : decode cX8_allGo 0 = .ok (.iconst 0, 1) := by decide +kernel
theorem dX8_allGo_1 : decode cX8_allGo 1 = .ok (.istore_n 1, 1) := by decide +kernel
theorem dX8_allGo_2 : decode cX8_allGo 2 = .ok (.iload_n 1, 1) := by decide +kernel
theorem dX8_allGo_3 : decode cX8_allGo 3 = .ok (.aload_n 0, 1) := by decide +kernel
theorem dX8_allGo_4 : decode cX8_allGo 4 = .ok (.invokevirtual 110, 3) := by decide +kernel
theorem dX8_allGo_7 : decode cX8_allGo 7 = .ok (.if_icmp .ge 31, 3) := by decide +kernel
theorem dX8_allGo_10 : decode cX8_allGo 10 = .ok (.aload_n 0, 1) := by decide +kernel
theorem dX8_allGo_11 : decode cX8_allGo 11 = .ok (.iload_n 1, 1) := by decide +kernel
theorem dX8_allGo_12 : decode cX8_allGo 12 = .ok (.aload_n 0, 1) := by decide +kernel
theorem dX8_allGo_13 : decode cX8_allGo 13 = .ok (.getfield 16, 3) := by decide +kernel
theorem dX8_allGo_16 : decode cX8_allGo 16 = .ok (.invokevirtual 126, 3) := by decide +kernel
theorem dX8_allGo_19 : decode cX8_allGo 19 = .ok (.aload_n 0, 1) := by decide +kernel
theorem dX8_allGo_20 : decode cX8_allGo 20 = .ok (.aload_n 0, 1) := by decide +kernel
theorem dX8_allGo_21 : decode cX8_allGo 21 = .ok (.getfield 16, 3) := by decide +kernel
theorem dX8_allGo_24 : decode cX8_allGo 24 = .ok (.invokevirtual 315, 3) := by decide +kernel
theorem dX8_allGo_27 : decode cX8_allGo 27 = .ok (.ifCond .ne 5, 3) := by decide +kernel
theorem dX8_allGo_30 : decode cX8_allGo 30 = .ok (.iconst 0, 1) := by decide +kernel
theorem dX8_allGo_31 : decode cX8_allGo 31 = .ok (.ireturn, 1) := by decide +kernel
theorem dX8_allGo_32 : decode cX8_allGo 32 = .ok (.iinc 1 1, 3) := by decide +kernel
theorem dX8_allGo_35 : decode cX8_allGo 35 = .ok (.goto (-33), 3) := by decide +kernel
theorem dX8_allGo_38 : decode cX8_allGo 38 = .ok (.iconst 1, 1) := by decide +kernel
theorem dX8_allGo_39 : decode cX8_allGo 39 = .ok (.ireturn, 1) := by decide +kernel
theorem dX8_endsHome_0 : decode cX8_endsHome 0 = .ok (.iconst 0, 1) := by decide +kernel
theorem dX8_endsHome_1 : decode cX8_endsHome 1 = .ok (.istore_n 1, 1) := by decide +kernel
theorem dX8_endsHome_2 : decode cX8_endsHome 2 = .ok (.iconst (-1), 1) := by decide +kernel
theorem dX8_endsHome_3 : decode cX8_endsHome 3 = .ok (.istore_n 2, 1) := by decide +kernel
theorem dX8_endsHome_4 : decode cX8_endsHome 4 = .ok (.aload_n 0, 1) := by decide +kernel
theorem dX8_endsHome_5 : decode cX8_endsHome 5 = .ok (.iconst 0, 1) := by decide +kernel
theorem dX8_endsHome_6 : decode cX8_endsHome 6 = .ok (.iconst 1, 1) := by decide +kernel
theorem dX8_endsHome_7 : decode cX8_endsHome 7 = .ok (.invokevirtual 343, 3) := by decide +kernel
theorem dX8_endsHome_10 : decode cX8_endsHome 10 = .ok (.istore_n 3, 1) := by decide +kernel
theorem dX8_endsHome_11 : decode cX8_endsHome 11 = .ok (.iload_n 3, 1) := by decide +kernel
theorem dX8_endsHome_12 : decode cX8_endsHome 12 = .ok (.iconst (-1), 1) := by decide +kernel
theorem dX8_endsHome_13 : decode cX8_endsHome 13 = .ok (.if_icmp .eq 18, 3) := by decide +kernel
theorem dX8_endsHome_16 : decode cX8_endsHome 16 = .ok (.iload_n 3, 1) := by decide +kernel
theorem dX8_endsHome_17 : decode cX8_endsHome 17 = .ok (.istore_n 2, 1) := by decide +kernel
theorem dX8_endsHome_18 : decode cX8_endsHome 18 = .ok (.iinc 1 1, 3) := by decide +kernel
theorem dX8_endsHome_21 : decode cX8_endsHome 21 = .ok (.aload_n 0, 1) := by decide +kernel
theorem dX8_endsHome_22 : decode cX8_endsHome 22 = .ok (.iload_n 1, 1) := by decide +kernel
theorem dX8_endsHome_23 : decode cX8_endsHome 23 = .ok (.iconst 1, 1) := by decide +kernel
theorem dX8_endsHome_24 : decode cX8_endsHome 24 = .ok (.invokevirtual 343, 3) := by decide +kernel
theorem dX8_endsHome_27 : decode cX8_endsHome 27 = .ok (.istore_n 3, 1) := by decide +kernel
theorem dX8_endsHome_28 : decode cX8_endsHome 28 = .ok (.goto (-17), 3) := by decide +kernel
theorem dX8_endsHome_31 : decode cX8_endsHome 31 = .ok (.iload_n 2, 1) := by decide +kernel
theorem dX8_endsHome_32 : decode cX8_endsHome 32 = .ok (.iconst 1, 1) := by decide +kernel
theorem dX8_endsHome_33 : decode cX8_endsHome 33 = .ok (.if_icmp .ne 7, 3) := by decide +kernel
theorem dX8_endsHome_36 : decode cX8_endsHome 36 = .ok (.iconst 1, 1) := by decide +kernel
theorem dX8_endsHome_37 : decode cX8_endsHome 37 = .ok (.goto 4, 3) := by decide +kernel
theorem dX8_endsHome_40 : decode cX8_endsHome 40 = .ok (.iconst 0, 1) := by decide +kernel
theorem dX8_endsHome_41 : decode cX8_endsHome 41 = .ok (.ireturn, 1) := by decide +kernel
theorem dX8_allEven_0 : decode cX8_allEven 0 = .ok (.iconst 1, 1) := by decide +kernel
theorem dX8_allEven_1 : decode cX8_allEven 1 = .ok (.istore_n 1, 1) := by decide +kernel
theorem dX8_allEven_2 : decode cX8_allEven 2 = .ok (.iconst 0, 1) := by decide +kernel
theorem dX8_allEven_3 : decode cX8_allEven 3 = .ok (.istore_n 2, 1) := by decide +kernel
theorem dX8_allEven_4 : decode cX8_allEven 4 = .ok (.iload_n 2, 1) := by decide +kernel
theorem dX8_allEven_5 : decode cX8_allEven 5 = .ok (.aload_n 0, 1) := by decide +kernel
theorem dX8_allEven_6 : decode cX8_allEven 6 = .ok (.invokevirtual 110, 3) := by decide +kernel
theorem dX8_allEven_9 : decode cX8_allEven 9 = .ok (.if_icmp .ge 39, 3) := by decide +kernel
theorem dX8_allEven_12 : decode cX8_allEven 12 = .ok (.aload_n 0, 1) := by decide +kernel
theorem dX8_allEven_13 : decode cX8_allEven 13 = .ok (.iload_n 2, 1) := by decide +kernel
theorem dX8_allEven_14 : decode cX8_allEven 14 = .ok (.aload_n 0, 1) := by decide +kernel
theorem dX8_allEven_15 : decode cX8_allEven 15 = .ok (.getfield 16, 3) := by decide +kernel
theorem dX8_allEven_18 : decode cX8_allEven 18 = .ok (.invokevirtual 126, 3) := by decide +kernel
theorem dX8_allEven_21 : decode cX8_allEven 21 = .ok (.iload_n 1, 1) := by decide +kernel
theorem dX8_allEven_22 : decode cX8_allEven 22 = .ok (.ifCond .eq 18, 3) := by decide +kernel
theorem dX8_allEven_25 : decode cX8_allEven 25 = .ok (.aload_n 0, 1) := by decide +kernel
theorem dX8_allEven_26 : decode cX8_allEven 26 = .ok (.aload_n 0, 1) := by decide +kernel
theorem dX8_allEven_27 : decode cX8_allEven 27 = .ok (.getfield 16, 3) := by decide +kernel
theorem dX8_allEven_30 : decode cX8_allEven 30 = .ok (.invokevirtual 254, 3) := by decide +kernel
theorem dX8_allEven_33 : decode cX8_allEven 33 = .ok (.ifCond .eq 7, 3) := by decide +kernel
theorem dX8_allEven_36 : decode cX8_allEven 36 = .ok (.iconst 1, 1) := by decide +kernel
theorem dX8_allEven_37 : decode cX8_allEven 37 = .ok (.goto 4, 3) := by decide +kernel
theorem dX8_allEven_40 : decode cX8_allEven 40 = .ok (.iconst 0, 1) := by decide +kernel
theorem dX8_allEven_41 : decode cX8_allEven 41 = .ok (.istore_n 1, 1) := by decide +kernel
theorem dX8_allEven_42 : decode cX8_allEven 42 = .ok (.iinc 2 1, 3) := by decide +kernel
theorem dX8_allEven_45 : decode cX8_allEven 45 = .ok (.goto (-41), 3) := by decide +kernel
theorem dX8_allEven_48 : decode cX8_allEven 48 = .ok (.iload_n 1, 1) := by decide +kernel
theorem dX8_allEven_49 : decode cX8_allEven 49 = .ok (.ireturn, 1) := by decide +kernel
theorem dX8_isPrimitive_0 : decode cX8_isPrimitive 0 = .ok (.aload_n 0, 1) := by decide +kernel
theorem dX8_isPrimitive_1 : decode cX8_isPrimitive 1 = .ok (.iconst 0, 1) := by decide +kernel
theorem dX8_isPrimitive_2 : decode cX8_isPrimitive 2 = .ok (.invokevirtual 257, 3) := by decide +kernel
theorem dX8_isPrimitive_5 : decode cX8_isPrimitive 5 = .ok (.iconst 1, 1) := by decide +kernel
theorem dX8_isPrimitive_6 : decode cX8_isPrimitive 6 = .ok (.aload_n 0, 1) := by decide +kernel
theorem dX8_isPrimitive_7 : decode cX8_isPrimitive 7 = .ok (.getfield 118, 3) := by decide +kernel
theorem dX8_isPrimitive_10 : decode cX8_isPrimitive 10 = .ok (.ishl, 1) := by decide +kernel
theorem dX8_isPrimitive_11 : decode cX8_isPrimitive 11 = .ok (.iconst 1, 1) := by decide +kernel
theorem dX8_isPrimitive_12 : decode cX8_isPrimitive 12 = .ok (.isub, 1) := by decide +kernel
theorem dX8_isPrimitive_13 : decode cX8_isPrimitive 13 = .ok (.if_icmp .ne 7, 3) := by decide +kernel
theorem dX8_isPrimitive_16 : decode cX8_isPrimitive 16 = .ok (.iconst 1, 1) := by decide +kernel
theorem dX8_isPrimitive_17 : decode cX8_isPrimitive 17 = .ok (.goto 4, 3) := by decide +kernel
theorem dX8_isPrimitive_20 : decode cX8_isPrimitive 20 = .ok (.iconst 0, 1) := by decide +kernel
theorem dX8_isPrimitive_21 : decode cX8_isPrimitive 21 = .ok (.istore_n 1, 1) := by decide +kernel
theorem dX8_isPrimitive_22 : decode cX8_isPrimitive 22 = .ok (.iconst 0, 1) := by decide +kernel
theorem dX8_isPrimitive_23 : decode cX8_isPrimitive 23 = .ok (.istore_n 2, 1) := by decide +kernel
theorem dX8_isPrimitive_24 : decode cX8_isPrimitive 24 = .ok (.iload_n 2, 1) := by decide +kernel
theorem dX8_isPrimitive_25 : decode cX8_isPrimitive 25 = .ok (.aload_n 0, 1) := by decide +kernel
theorem dX8_isPrimitive_26 : decode cX8_isPrimitive 26 = .ok (.getfield 118, 3) := by decide +kernel
theorem dX8_isPrimitive_29 : decode cX8_isPrimitive 29 = .ok (.if_icmp .ge 53, 3) := by decide +kernel
theorem dX8_isPrimitive_32 : decode cX8_isPrimitive 32 = .ok (.iload_n 1, 1) := by decide +kernel
theorem dX8_isPrimitive_33 : decode cX8_isPrimitive 33 = .ok (.ifCond .eq 49, 3) := by decide +kernel
theorem dX8_isPrimitive_36 : decode cX8_isPrimitive 36 = .ok (.iconst 0, 1) := by decide +kernel
theorem dX8_isPrimitive_37 : decode cX8_isPrimitive 37 = .ok (.istore_n 3, 1) := by decide +kernel
theorem dX8_isPrimitive_38 : decode cX8_isPrimitive 38 = .ok (.iload_n 3, 1) := by decide +kernel
theorem dX8_isPrimitive_39 : decode cX8_isPrimitive 39 = .ok (.iload_n 2, 1) := by decide +kernel
theorem dX8_isPrimitive_40 : decode cX8_isPrimitive 40 = .ok (.if_icmp .ge 36, 3) := by decide +kernel
theorem dX8_isPrimitive_43 : decode cX8_isPrimitive 43 = .ok (.iload_n 1, 1) := by decide +kernel
theorem dX8_isPrimitive_44 : decode cX8_isPrimitive 44 = .ok (.ifCond .eq 24, 3) := by decide +kernel
theorem dX8_isPrimitive_47 : decode cX8_isPrimitive 47 = .ok (.aload_n 0, 1) := by decide +kernel
theorem dX8_isPrimitive_48 : decode cX8_isPrimitive 48 = .ok (.iload_n 2, 1) := by decide +kernel
theorem dX8_isPrimitive_49 : decode cX8_isPrimitive 49 = .ok (.iload_n 3, 1) := by decide +kernel
theorem dX8_isPrimitive_50 : decode cX8_isPrimitive 50 = .ok (.invokevirtual 347, 3) := by decide +kernel
theorem dX8_isPrimitive_53 : decode cX8_isPrimitive 53 = .ok (.iconst 1, 1) := by decide +kernel
theorem dX8_isPrimitive_54 : decode cX8_isPrimitive 54 = .ok (.aload_n 0, 1) := by decide +kernel
theorem dX8_isPrimitive_55 : decode cX8_isPrimitive 55 = .ok (.getfield 118, 3) := by decide +kernel
theorem dX8_isPrimitive_58 : decode cX8_isPrimitive 58 = .ok (.ishl, 1) := by decide +kernel
theorem dX8_isPrimitive_59 : decode cX8_isPrimitive 59 = .ok (.iconst 1, 1) := by decide +kernel
theorem dX8_isPrimitive_60 : decode cX8_isPrimitive 60 = .ok (.isub, 1) := by decide +kernel
theorem dX8_isPrimitive_61 : decode cX8_isPrimitive 61 = .ok (.if_icmp .ne 7, 3) := by decide +kernel
theorem dX8_isPrimitive_64 : decode cX8_isPrimitive 64 = .ok (.iconst 1, 1) := by decide +kernel
theorem dX8_isPrimitive_65 : decode cX8_isPrimitive 65 = .ok (.goto 4, 3) := by decide +kernel
theorem dX8_isPrimitive_68 : decode cX8_isPrimitive 68 = .ok (.iconst 0, 1) := by decide +kernel
theorem dX8_isPrimitive_69 : decode cX8_isPrimitive 69 = .ok (.istore_n 1, 1) := by decide +kernel
theorem dX8_isPrimitive_70 : decode cX8_isPrimitive 70 = .ok (.iinc 3 1, 3) := by decide +kernel
theorem dX8_isPrimitive_73 : decode cX8_isPrimitive 73 = .ok (.goto (-35), 3) := by decide +kernel
theorem dX8_isPrimitive_76 : decode cX8_isPrimitive 76 = .ok (.iinc 2 1, 3) := by decide +kernel
theorem dX8_isPrimitive_79 : decode cX8_isPrimitive 79 = .ok (.goto (-55), 3) := by decide +kernel
theorem dX8_isPrimitive_82 : decode cX8_isPrimitive 82 = .ok (.iload_n 1, 1) := by decide +kernel
theorem dX8_isPrimitive_83 : decode cX8_isPrimitive 83 = .ok (.ireturn, 1) := by decide +kernel
theorem dX8_has_0 : decode cX8_has 0 = .ok (.aload_n 0, 1) := by decide +kernel
theorem dX8_has_1 : decode cX8_has 1 = .ok (.aload_n 0, 1) := by decide +kernel
theorem dX8_has_2 : decode cX8_has 2 = .ok (.iload_n 1, 1) := by decide +kernel
theorem dX8_has_3 : decode cX8_has 3 = .ok (.i2l, 1) := by decide +kernel
theorem dX8_has_4 : decode cX8_has 4 = .ok (.lconst 0, 1) := by decide +kernel
theorem dX8_has_5 : decode cX8_has 5 = .ok (.ldc2_w 192, 3) := by decide +kernel
theorem dX8_has_8 : decode cX8_has 8 = .ok (.invokestatic 114, 3) := by decide +kernel
theorem dX8_has_11 : decode cX8_has 11 = .ok (.ifCond .eq 7, 3) := by decide +kernel
theorem dX8_has_14 : decode cX8_has 14 = .ok (.iconst 0, 1) := by decide +kernel
theorem dX8_has_15 : decode cX8_has 15 = .ok (.goto 4, 3) := by decide +kernel
theorem dX8_has_18 : decode cX8_has 18 = .ok (.iconst 1, 1) := by decide +kernel
theorem dX8_has_19 : decode cX8_has 19 = .ok (.invokevirtual 260, 3) := by decide +kernel
theorem dX8_has_22 : decode cX8_has 22 = .ok (.invokevirtual 194, 3) := by decide +kernel
theorem dX8_has_25 : decode cX8_has 25 = .ok (.ifCond .ne 5, 3) := by decide +kernel
theorem dX8_has_28 : decode cX8_has 28 = .ok (.iconst (-1), 1) := by decide +kernel
theorem dX8_has_29 : decode cX8_has 29 = .ok (.ireturn, 1) := by decide +kernel
theorem dX8_has_30 : decode cX8_has 30 = .ok (.iload_n 1, 1) := by decide +kernel
theorem dX8_has_31 : decode cX8_has 31 = .ok (.ifCond .ne 13, 3) := by decide +kernel
theorem dX8_has_34 : decode cX8_has 34 = .ok (.aload_n 0, 1) := by decide +kernel
theorem dX8_has_35 : decode cX8_has 35 = .ok (.invokevirtual 350, 3) := by decide +kernel
theorem dX8_has_38 : decode cX8_has 38 = .ok (.ifCond .eq 47, 3) := by decide +kernel
theorem dX8_has_41 : decode cX8_has 41 = .ok (.goto 40, 3) := by decide +kernel
theorem dX8_has_44 : decode cX8_has 44 = .ok (.iload_n 1, 1) := by decide +kernel
theorem dX8_has_45 : decode cX8_has 45 = .ok (.iconst 1, 1) := by decide +kernel
theorem dX8_has_46 : decode cX8_has 46 = .ok (.if_icmp .ne 13, 3) := by decide +kernel
theorem dX8_has_49 : decode cX8_has 49 = .ok (.aload_n 0, 1) := by decide +kernel
theorem dX8_has_50 : decode cX8_has 50 = .ok (.invokevirtual 353, 3) := by decide +kernel
theorem dX8_has_53 : decode cX8_has 53 = .ok (.ifCond .eq 32, 3) := by decide +kernel
theorem dX8_has_56 : decode cX8_has 56 = .ok (.goto 25, 3) := by decide +kernel
theorem dX8_has_59 : decode cX8_has 59 = .ok (.iload_n 1, 1) := by decide +kernel
theorem dX8_has_60 : decode cX8_has 60 = .ok (.iconst 2, 1) := by decide +kernel
theorem dX8_has_61 : decode cX8_has 61 = .ok (.if_icmp .ne 13, 3) := by decide +kernel
theorem dX8_has_64 : decode cX8_has 64 = .ok (.aload_n 0, 1) := by decide +kernel
theorem dX8_has_65 : decode cX8_has 65 = .ok (.invokevirtual 356, 3) := by decide +kernel
theorem dX8_has_68 : decode cX8_has 68 = .ok (.ifCond .eq 17, 3) := by decide +kernel
theorem dX8_has_71 : decode cX8_has 71 = .ok (.goto 10, 3) := by decide +kernel
theorem dX8_has_74 : decode cX8_has 74 = .ok (.aload_n 0, 1) := by decide +kernel
theorem dX8_has_75 : decode cX8_has 75 = .ok (.invokevirtual 359, 3) := by decide +kernel
theorem dX8_has_78 : decode cX8_has 78 = .ok (.ifCond .eq 7, 3) := by decide +kernel
theorem dX8_has_81 : decode cX8_has 81 = .ok (.iconst 1, 1) := by decide +kernel
theorem dX8_has_82 : decode cX8_has 82 = .ok (.goto 4, 3) := by decide +kernel
theorem dX8_has_85 : decode cX8_has 85 = .ok (.iconst 0, 1) := by decide +kernel
theorem dX8_has_86 : decode cX8_has 86 = .ok (.ireturn, 1) := by decide +kernel
theorem dX8_by_0 : decode cX8_by 0 = .ok (.aload_n 0, 1) := by decide +kernel
theorem dX8_by_1 : decode cX8_by 1 = .ok (.aload_n 0, 1) := by decide +kernel
theorem dX8_by_2 : decode cX8_by 2 = .ok (.aload_n 0, 1) := by decide +kernel
theorem dX8_by_3 : decode cX8_by 3 = .ok (.iload_n 1, 1) := by decide +kernel
theorem dX8_by_4 : decode cX8_by 4 = .ok (.invokevirtual 362, 3) := by decide +kernel
theorem dX8_by_7 : decode cX8_by 7 = .ok (.ifCond .eq 7, 3) := by decide +kernel
theorem dX8_by_10 : decode cX8_by 10 = .ok (.iconst 0, 1) := by decide +kernel
theorem dX8_by_11 : decode cX8_by 11 = .ok (.goto 4, 3) := by decide +kernel
theorem dX8_by_14 : decode cX8_by 14 = .ok (.iconst 2, 1) := by decide +kernel
theorem dX8_by_15 : decode cX8_by 15 = .ok (.invokevirtual 260, 3) := by decide +kernel
theorem dX8_by_18 : decode cX8_by 18 = .ok (.invokevirtual 194, 3) := by decide +kernel
theorem dX8_by_21 : decode cX8_by 21 = .ok (.ifCond .ne 5, 3) := by decide +kernel
theorem dX8_by_24 : decode cX8_by 24 = .ok (.iconst (-1), 1) := by decide +kernel
theorem dX8_by_25 : decode cX8_by 25 = .ok (.ireturn, 1) := by decide +kernel
theorem dX8_by_26 : decode cX8_by 26 = .ok (.aload_n 0, 1) := by decide +kernel
theorem dX8_by_27 : decode cX8_by 27 = .ok (.iconst 1, 1) := by decide +kernel
theorem dX8_by_28 : decode cX8_by 28 = .ok (.iload_n 1, 1) := by decide +kernel
theorem dX8_by_29 : decode cX8_by 29 = .ok (.invokevirtual 175, 3) := by decide +kernel
theorem dX8_by_32 : decode cX8_by 32 = .ok (.aload_n 0, 1) := by decide +kernel
theorem dX8_by_33 : decode cX8_by 33 = .ok (.iconst 1, 1) := by decide +kernel
theorem dX8_by_34 : decode cX8_by 34 = .ok (.invokevirtual 181, 3) := by decide +kernel
theorem dX8_by_37 : decode cX8_by 37 = .ok (.ireturn, 1) := by decide +kernel
theorem dX8_meet_0 : decode cX8_meet 0 = .ok (.aload_n 0, 1) := by decide +kernel
theorem dX8_meet_1 : decode cX8_meet 1 = .ok (.aload_n 0, 1) := by decide +kernel
theorem dX8_meet_2 : decode cX8_meet 2 = .ok (.aload_n 0, 1) := by decide +kernel
theorem dX8_meet_3 : decode cX8_meet 3 = .ok (.iload_n 1, 1) := by decide +kernel
theorem dX8_meet_4 : decode cX8_meet 4 = .ok (.invokevirtual 362, 3) := by decide +kernel
theorem dX8_meet_7 : decode cX8_meet 7 = .ok (.ifCond .eq 15, 3) := by decide +kernel
theorem dX8_meet_10 : decode cX8_meet 10 = .ok (.aload_n 0, 1) := by decide +kernel
theorem dX8_meet_11 : decode cX8_meet 11 = .ok (.iload_n 2, 1) := by decide +kernel
theorem dX8_meet_12 : decode cX8_meet 12 = .ok (.invokevirtual 362, 3) := by decide +kernel
theorem dX8_meet_15 : decode cX8_meet 15 = .ok (.ifCond .eq 7, 3) := by decide +kernel
theorem dX8_meet_18 : decode cX8_meet 18 = .ok (.iconst 0, 1) := by decide +kernel
theorem dX8_meet_19 : decode cX8_meet 19 = .ok (.goto 4, 3) := by decide +kernel
theorem dX8_meet_22 : decode cX8_meet 22 = .ok (.iconst 2, 1) := by decide +kernel
theorem dX8_meet_23 : decode cX8_meet 23 = .ok (.invokevirtual 299, 3) := by decide +kernel
theorem dX8_meet_26 : decode cX8_meet 26 = .ok (.invokevirtual 194, 3) := by decide +kernel
theorem dX8_meet_29 : decode cX8_meet 29 = .ok (.ifCond .ne 5, 3) := by decide +kernel
theorem dX8_meet_32 : decode cX8_meet 32 = .ok (.iconst (-1), 1) := by decide +kernel
theorem dX8_meet_33 : decode cX8_meet 33 = .ok (.ireturn, 1) := by decide +kernel
theorem dX8_meet_34 : decode cX8_meet 34 = .ok (.aload_n 0, 1) := by decide +kernel
theorem dX8_meet_35 : decode cX8_meet 35 = .ok (.invokevirtual 293, 3) := by decide +kernel
theorem dX8_meet_38 : decode cX8_meet 38 = .ok (.aload_n 0, 1) := by decide +kernel
theorem dX8_meet_39 : decode cX8_meet 39 = .ok (.iconst 1, 1) := by decide +kernel
theorem dX8_meet_40 : decode cX8_meet 40 = .ok (.iload_n 1, 1) := by decide +kernel
theorem dX8_meet_41 : decode cX8_meet 41 = .ok (.invokevirtual 175, 3) := by decide +kernel
theorem dX8_meet_44 : decode cX8_meet 44 = .ok (.aload_n 0, 1) := by decide +kernel
theorem dX8_meet_45 : decode cX8_meet 45 = .ok (.iconst 2, 1) := by decide +kernel
theorem dX8_meet_46 : decode cX8_meet 46 = .ok (.iload_n 2, 1) := by decide +kernel
theorem dX8_meet_47 : decode cX8_meet 47 = .ok (.invokevirtual 175, 3) := by decide +kernel
theorem dX8_meet_50 : decode cX8_meet 50 = .ok (.iconst 0, 1) := by decide +kernel
theorem dX8_meet_51 : decode cX8_meet 51 = .ok (.istore_n 3, 1) := by decide +kernel
theorem dX8_meet_52 : decode cX8_meet 52 = .ok (.iconst 0, 1) := by decide +kernel
theorem dX8_meet_53 : decode cX8_meet 53 = .ok (.istore 4, 2) := by decide +kernel
theorem dX8_meet_55 : decode cX8_meet 55 = .ok (.iload 4, 2) := by decide +kernel
theorem dX8_meet_57 : decode cX8_meet 57 = .ok (.aload_n 0, 1) := by decide +kernel
theorem dX8_meet_58 : decode cX8_meet 58 = .ok (.getfield 290, 3) := by decide +kernel
theorem dX8_meet_61 : decode cX8_meet 61 = .ok (.if_icmp .ge 51, 3) := by decide +kernel
theorem dX8_meet_64 : decode cX8_meet 64 = .ok (.aload_n 0, 1) := by decide +kernel
theorem dX8_meet_65 : decode cX8_meet 65 = .ok (.iload 4, 2) := by decide +kernel
theorem dX8_meet_67 : decode cX8_meet 67 = .ok (.aload_n 0, 1) := by decide +kernel
theorem dX8_meet_68 : decode cX8_meet 68 = .ok (.getfield 16, 3) := by decide +kernel
theorem dX8_meet_71 : decode cX8_meet 71 = .ok (.invokevirtual 296, 3) := by decide +kernel
theorem dX8_meet_74 : decode cX8_meet 74 = .ok (.iload_n 3, 1) := by decide +kernel
theorem dX8_meet_75 : decode cX8_meet 75 = .ok (.aload_n 0, 1) := by decide +kernel
theorem dX8_meet_76 : decode cX8_meet 76 = .ok (.iconst 1, 1) := by decide +kernel
theorem dX8_meet_77 : decode cX8_meet 77 = .ok (.aload_n 0, 1) := by decide +kernel
theorem dX8_meet_78 : decode cX8_meet 78 = .ok (.getfield 16, 3) := by decide +kernel
theorem dX8_meet_81 : decode cX8_meet 81 = .ok (.invokevirtual 275, 3) := by decide +kernel
theorem dX8_meet_84 : decode cX8_meet 84 = .ok (.ifCond .eq 19, 3) := by decide +kernel
theorem dX8_meet_87 : decode cX8_meet 87 = .ok (.aload_n 0, 1) := by decide +kernel
theorem dX8_meet_88 : decode cX8_meet 88 = .ok (.iconst 2, 1) := by decide +kernel
theorem dX8_meet_89 : decode cX8_meet 89 = .ok (.aload_n 0, 1) := by decide +kernel
theorem dX8_meet_90 : decode cX8_meet 90 = .ok (.getfield 16, 3) := by decide +kernel
theorem dX8_meet_93 : decode cX8_meet 93 = .ok (.invokevirtual 275, 3) := by decide +kernel
theorem dX8_meet_96 : decode cX8_meet 96 = .ok (.ifCond .eq 7, 3) := by decide +kernel
theorem dX8_meet_99 : decode cX8_meet 99 = .ok (.iconst 1, 1) := by decide +kernel
theorem dX8_meet_100 : decode cX8_meet 100 = .ok (.goto 4, 3) := by decide +kernel
theorem dX8_meet_103 : decode cX8_meet 103 = .ok (.iconst 0, 1) := by decide +kernel
theorem dX8_meet_104 : decode cX8_meet 104 = .ok (.iadd, 1) := by decide +kernel
theorem dX8_meet_105 : decode cX8_meet 105 = .ok (.istore_n 3, 1) := by decide +kernel
theorem dX8_meet_106 : decode cX8_meet 106 = .ok (.iinc 4 1, 3) := by decide +kernel
theorem dX8_meet_109 : decode cX8_meet 109 = .ok (.goto (-54), 3) := by decide +kernel
theorem dX8_meet_112 : decode cX8_meet 112 = .ok (.iload_n 3, 1) := by decide +kernel
theorem dX8_meet_113 : decode cX8_meet 113 = .ok (.ireturn, 1) := by decide +kernel
theorem dX8_normal_0 : decode cX8_normal 0 = .ok (.aload_n 0, 1) := by decide +kernel
theorem dX8_normal_1 : decode cX8_normal 1 = .ok (.aload_n 0, 1) := by decide +kernel
theorem dX8_normal_2 : decode cX8_normal 2 = .ok (.aload_n 0, 1) := by decide +kernel
theorem dX8_normal_3 : decode cX8_normal 3 = .ok (.iload_n 1, 1) := by decide +kernel
theorem dX8_normal_4 : decode cX8_normal 4 = .ok (.invokevirtual 362, 3) := by decide +kernel
theorem dX8_normal_7 : decode cX8_normal 7 = .ok (.ifCond .eq 7, 3) := by decide +kernel
theorem dX8_normal_10 : decode cX8_normal 10 = .ok (.iconst 0, 1) := by decide +kernel
theorem dX8_normal_11 : decode cX8_normal 11 = .ok (.goto 4, 3) := by decide +kernel
theorem dX8_normal_14 : decode cX8_normal 14 = .ok (.iconst 2, 1) := by decide +kernel
theorem dX8_normal_15 : decode cX8_normal 15 = .ok (.invokevirtual 260, 3) := by decide +kernel
theorem dX8_normal_18 : decode cX8_normal 18 = .ok (.invokevirtual 194, 3) := by decide +kernel
theorem dX8_normal_21 : decode cX8_normal 21 = .ok (.ifCond .ne 5, 3) := by decide +kernel
theorem dX8_normal_24 : decode cX8_normal 24 = .ok (.iconst (-1), 1) := by decide +kernel
theorem dX8_normal_25 : decode cX8_normal 25 = .ok (.ireturn, 1) := by decide +kernel
theorem dX8_normal_26 : decode cX8_normal 26 = .ok (.aload_n 0, 1) := by decide +kernel
theorem dX8_normal_27 : decode cX8_normal 27 = .ok (.iconst 1, 1) := by decide +kernel
theorem dX8_normal_28 : decode cX8_normal 28 = .ok (.iload_n 1, 1) := by decide +kernel
theorem dX8_normal_29 : decode cX8_normal 29 = .ok (.invokevirtual 175, 3) := by decide +kernel
theorem dX8_normal_32 : decode cX8_normal 32 = .ok (.iconst 1, 1) := by decide +kernel
theorem dX8_normal_33 : decode cX8_normal 33 = .ok (.istore_n 2, 1) := by decide +kernel
theorem dX8_normal_34 : decode cX8_normal 34 = .ok (.iconst 0, 1) := by decide +kernel
theorem dX8_normal_35 : decode cX8_normal 35 = .ok (.istore_n 3, 1) := by decide +kernel
theorem dX8_normal_36 : decode cX8_normal 36 = .ok (.iload_n 3, 1) := by decide +kernel
theorem dX8_normal_37 : decode cX8_normal 37 = .ok (.aload_n 0, 1) := by decide +kernel
theorem dX8_normal_38 : decode cX8_normal 38 = .ok (.invokevirtual 110, 3) := by decide +kernel
theorem dX8_normal_41 : decode cX8_normal 41 = .ok (.if_icmp .ge 95, 3) := by decide +kernel
theorem dX8_normal_44 : decode cX8_normal 44 = .ok (.iload_n 1, 1) := by decide +kernel
theorem dX8_normal_45 : decode cX8_normal 45 = .ok (.iload_n 3, 1) := by decide +kernel
theorem dX8_normal_46 : decode cX8_normal 46 = .ok (.invokestatic 157, 3) := by decide +kernel
theorem dX8_normal_49 : decode cX8_normal 49 = .ok (.ifCond .ne 6, 3) := by decide +kernel
theorem dX8_normal_52 : decode cX8_normal 52 = .ok (.goto 78, 3) := by decide +kernel
theorem dX8_normal_55 : decode cX8_normal 55 = .ok (.iconst 0, 1) := by decide +kernel
theorem dX8_normal_56 : decode cX8_normal 56 = .ok (.istore 4, 2) := by decide +kernel
theorem dX8_normal_58 : decode cX8_normal 58 = .ok (.iload 4, 2) := by decide +kernel
theorem dX8_normal_60 : decode cX8_normal 60 = .ok (.aload_n 0, 1) := by decide +kernel
theorem dX8_normal_61 : decode cX8_normal 61 = .ok (.invokevirtual 110, 3) := by decide +kernel
theorem dX8_normal_64 : decode cX8_normal 64 = .ok (.if_icmp .ge 66, 3) := by decide +kernel
theorem dX8_normal_67 : decode cX8_normal 67 = .ok (.aload_n 0, 1) := by decide +kernel
theorem dX8_normal_68 : decode cX8_normal 68 = .ok (.iload_n 3, 1) := by decide +kernel
theorem dX8_normal_69 : decode cX8_normal 69 = .ok (.aload_n 0, 1) := by decide +kernel
theorem dX8_normal_70 : decode cX8_normal 70 = .ok (.getfield 16, 3) := by decide +kernel
theorem dX8_normal_73 : decode cX8_normal 73 = .ok (.invokevirtual 126, 3) := by decide +kernel
theorem dX8_normal_76 : decode cX8_normal 76 = .ok (.aload_n 0, 1) := by decide +kernel
theorem dX8_normal_77 : decode cX8_normal 77 = .ok (.iload 4, 2) := by decide +kernel
theorem dX8_normal_79 : decode cX8_normal 79 = .ok (.aload_n 0, 1) := by decide +kernel
theorem dX8_normal_80 : decode cX8_normal 80 = .ok (.getfield 19, 3) := by decide +kernel
theorem dX8_normal_83 : decode cX8_normal 83 = .ok (.invokevirtual 126, 3) := by decide +kernel
theorem dX8_normal_86 : decode cX8_normal 86 = .ok (.aload_n 0, 1) := by decide +kernel
theorem dX8_normal_87 : decode cX8_normal 87 = .ok (.aload_n 0, 1) := by decide +kernel
theorem dX8_normal_88 : decode cX8_normal 88 = .ok (.getfield 16, 3) := by decide +kernel
theorem dX8_normal_91 : decode cX8_normal 91 = .ok (.aload_n 0, 1) := by decide +kernel
theorem dX8_normal_92 : decode cX8_normal 92 = .ok (.getfield 19, 3) := by decide +kernel
theorem dX8_normal_95 : decode cX8_normal 95 = .ok (.aload_n 0, 1) := by decide +kernel
theorem dX8_normal_96 : decode cX8_normal 96 = .ok (.getfield 22, 3) := by decide +kernel
theorem dX8_normal_99 : decode cX8_normal 99 = .ok (.invokevirtual 318, 3) := by decide +kernel
theorem dX8_normal_102 : decode cX8_normal 102 = .ok (.iload_n 2, 1) := by decide +kernel
theorem dX8_normal_103 : decode cX8_normal 103 = .ok (.ifCond .eq 19, 3) := by decide +kernel
theorem dX8_normal_106 : decode cX8_normal 106 = .ok (.aload_n 0, 1) := by decide +kernel
theorem dX8_normal_107 : decode cX8_normal 107 = .ok (.iconst 1, 1) := by decide +kernel
theorem dX8_normal_108 : decode cX8_normal 108 = .ok (.aload_n 0, 1) := by decide +kernel
theorem dX8_normal_109 : decode cX8_normal 109 = .ok (.getfield 22, 3) := by decide +kernel
theorem dX8_normal_112 : decode cX8_normal 112 = .ok (.invokevirtual 275, 3) := by decide +kernel
theorem dX8_normal_115 : decode cX8_normal 115 = .ok (.ifCond .eq 7, 3) := by decide +kernel
theorem dX8_normal_118 : decode cX8_normal 118 = .ok (.iconst 1, 1) := by decide +kernel
theorem dX8_normal_119 : decode cX8_normal 119 = .ok (.goto 4, 3) := by decide +kernel
theorem dX8_normal_122 : decode cX8_normal 122 = .ok (.iconst 0, 1) := by decide +kernel
theorem dX8_normal_123 : decode cX8_normal 123 = .ok (.istore_n 2, 1) := by decide +kernel
theorem dX8_normal_124 : decode cX8_normal 124 = .ok (.iinc 4 1, 3) := by decide +kernel
theorem dX8_normal_127 : decode cX8_normal 127 = .ok (.goto (-69), 3) := by decide +kernel
theorem dX8_normal_130 : decode cX8_normal 130 = .ok (.iinc 3 1, 3) := by decide +kernel
theorem dX8_normal_133 : decode cX8_normal 133 = .ok (.goto (-97), 3) := by decide +kernel
theorem dX8_normal_136 : decode cX8_normal 136 = .ok (.iload_n 2, 1) := by decide +kernel
theorem dX8_normal_137 : decode cX8_normal 137 = .ok (.ifCond .eq 7, 3) := by decide +kernel
theorem dX8_normal_140 : decode cX8_normal 140 = .ok (.iconst 1, 1) := by decide +kernel
theorem dX8_normal_141 : decode cX8_normal 141 = .ok (.goto 4, 3) := by decide +kernel
theorem dX8_normal_144 : decode cX8_normal 144 = .ok (.iconst 0, 1) := by decide +kernel
theorem dX8_normal_145 : decode cX8_normal 145 = .ok (.ireturn, 1) := by decide +kernel
theorem dX8_isWhole_0 : decode cX8_isWhole 0 = .ok (.aload_n 0, 1) := by decide +kernel
theorem dX8_isWhole_1 : decode cX8_isWhole 1 = .ok (.iconst 1, 1) := by decide +kernel
theorem dX8_isWhole_2 : decode cX8_isWhole 2 = .ok (.iload_n 1, 1) := by decide +kernel
theorem dX8_isWhole_3 : decode cX8_isWhole 3 = .ok (.invokevirtual 175, 3) := by decide +kernel
theorem dX8_isWhole_6 : decode cX8_isWhole 6 = .ok (.aload_n 0, 1) := by decide +kernel
theorem dX8_isWhole_7 : decode cX8_isWhole 7 = .ok (.iconst 1, 1) := by decide +kernel
theorem dX8_isWhole_8 : decode cX8_isWhole 8 = .ok (.invokevirtual 181, 3) := by decide +kernel
theorem dX8_isWhole_11 : decode cX8_isWhole 11 = .ok (.aload_n 0, 1) := by decide +kernel
theorem dX8_isWhole_12 : decode cX8_isWhole 12 = .ok (.invokevirtual 185, 3) := by decide +kernel
theorem dX8_isWhole_15 : decode cX8_isWhole 15 = .ok (.if_icmp .ne 7, 3) := by decide +kernel
theorem dX8_isWhole_18 : decode cX8_isWhole 18 = .ok (.iconst 1, 1) := by decide +kernel
theorem dX8_isWhole_19 : decode cX8_isWhole 19 = .ok (.goto 4, 3) := by decide +kernel
theorem dX8_isWhole_22 : decode cX8_isWhole 22 = .ok (.iconst 0, 1) := by decide +kernel
theorem dX8_isWhole_23 : decode cX8_isWhole 23 = .ok (.ireturn, 1) := by decide +kernel
theorem dX8_spare_0 : decode cX8_spare 0 = .ok (.aload_n 0, 1) := by decide +kernel
theorem dX8_spare_1 : decode cX8_spare 1 = .ok (.aload_n 0, 1) := by decide +kernel
theorem dX8_spare_2 : decode cX8_spare 2 = .ok (.iconst 0, 1) := by decide +kernel
theorem dX8_spare_3 : decode cX8_spare 3 = .ok (.invokevirtual 260, 3) := by decide +kernel
theorem dX8_spare_6 : decode cX8_spare 6 = .ok (.invokevirtual 194, 3) := by decide +kernel
theorem dX8_spare_9 : decode cX8_spare 9 = .ok (.ifCond .ne 5, 3) := by decide +kernel
theorem dX8_spare_12 : decode cX8_spare 12 = .ok (.iconst (-1), 1) := by decide +kernel
theorem dX8_spare_13 : decode cX8_spare 13 = .ok (.ireturn, 1) := by decide +kernel
theorem dX8_spare_14 : decode cX8_spare 14 = .ok (.iconst 1, 1) := by decide +kernel
theorem dX8_spare_15 : decode cX8_spare 15 = .ok (.aload_n 0, 1) := by decide +kernel
theorem dX8_spare_16 : decode cX8_spare 16 = .ok (.invokevirtual 110, 3) := by decide +kernel
theorem dX8_spare_19 : decode cX8_spare 19 = .ok (.ishl, 1) := by decide +kernel
theorem dX8_spare_20 : decode cX8_spare 20 = .ok (.iconst 1, 1) := by decide +kernel
theorem dX8_spare_21 : decode cX8_spare 21 = .ok (.isub, 1) := by decide +kernel
theorem dX8_spare_22 : decode cX8_spare 22 = .ok (.istore_n 1, 1) := by decide +kernel
theorem dX8_spare_23 : decode cX8_spare 23 = .ok (.iconst 0, 1) := by decide +kernel
theorem dX8_spare_24 : decode cX8_spare 24 = .ok (.istore_n 2, 1) := by decide +kernel
theorem dX8_spare_25 : decode cX8_spare 25 = .ok (.iconst 0, 1) := by decide +kernel
theorem dX8_spare_26 : decode cX8_spare 26 = .ok (.istore_n 3, 1) := by decide +kernel
theorem dX8_spare_27 : decode cX8_spare 27 = .ok (.iload_n 3, 1) := by decide +kernel
theorem dX8_spare_28 : decode cX8_spare 28 = .ok (.aload_n 0, 1) := by decide +kernel
theorem dX8_spare_29 : decode cX8_spare 29 = .ok (.invokevirtual 110, 3) := by decide +kernel
theorem dX8_spare_32 : decode cX8_spare 32 = .ok (.if_icmp .ge 33, 3) := by decide +kernel
theorem dX8_spare_35 : decode cX8_spare 35 = .ok (.iload_n 2, 1) := by decide +kernel
theorem dX8_spare_36 : decode cX8_spare 36 = .ok (.aload_n 0, 1) := by decide +kernel
theorem dX8_spare_37 : decode cX8_spare 37 = .ok (.iload_n 1, 1) := by decide +kernel
theorem dX8_spare_38 : decode cX8_spare 38 = .ok (.iconst 1, 1) := by decide +kernel
theorem dX8_spare_39 : decode cX8_spare 39 = .ok (.iload_n 3, 1) := by decide +kernel
theorem dX8_spare_40 : decode cX8_spare 40 = .ok (.ishl, 1) := by decide +kernel
theorem dX8_spare_41 : decode cX8_spare 41 = .ok (.iconst (-1), 1) := by decide +kernel
theorem dX8_spare_42 : decode cX8_spare 42 = .ok (.ixor, 1) := by decide +kernel
theorem dX8_spare_43 : decode cX8_spare 43 = .ok (.iand, 1) := by decide +kernel
theorem dX8_spare_44 : decode cX8_spare 44 = .ok (.invokevirtual 365, 3) := by decide +kernel
theorem dX8_spare_47 : decode cX8_spare 47 = .ok (.ifCond .eq 9, 3) := by decide +kernel
theorem dX8_spare_50 : decode cX8_spare 50 = .ok (.iconst 1, 1) := by decide +kernel
theorem dX8_spare_51 : decode cX8_spare 51 = .ok (.iload_n 3, 1) := by decide +kernel
theorem dX8_spare_52 : decode cX8_spare 52 = .ok (.ishl, 1) := by decide +kernel
theorem dX8_spare_53 : decode cX8_spare 53 = .ok (.goto 4, 3) := by decide +kernel
theorem dX8_spare_56 : decode cX8_spare 56 = .ok (.iconst 0, 1) := by decide +kernel
theorem dX8_spare_57 : decode cX8_spare 57 = .ok (.ior, 1) := by decide +kernel
theorem dX8_spare_58 : decode cX8_spare 58 = .ok (.istore_n 2, 1) := by decide +kernel
theorem dX8_spare_59 : decode cX8_spare 59 = .ok (.iinc 3 1, 3) := by decide +kernel
theorem dX8_spare_62 : decode cX8_spare 62 = .ok (.goto (-35), 3) := by decide +kernel
theorem dX8_spare_65 : decode cX8_spare 65 = .ok (.iload_n 2, 1) := by decide +kernel
theorem dX8_spare_66 : decode cX8_spare 66 = .ok (.ireturn, 1) := by decide +kernel
theorem dX8_fewest_0 : decode cX8_fewest 0 = .ok (.aload_n 0, 1) := by decide +kernel
theorem dX8_fewest_1 : decode cX8_fewest 1 = .ok (.aload_n 0, 1) := by decide +kernel
theorem dX8_fewest_2 : decode cX8_fewest 2 = .ok (.iconst 0, 1) := by decide +kernel
theorem dX8_fewest_3 : decode cX8_fewest 3 = .ok (.invokevirtual 260, 3) := by decide +kernel
theorem dX8_fewest_6 : decode cX8_fewest 6 = .ok (.invokevirtual 194, 3) := by decide +kernel
theorem dX8_fewest_9 : decode cX8_fewest 9 = .ok (.ifCond .ne 5, 3) := by decide +kernel
theorem dX8_fewest_12 : decode cX8_fewest 12 = .ok (.iconst (-1), 1) := by decide +kernel
theorem dX8_fewest_13 : decode cX8_fewest 13 = .ok (.ireturn, 1) := by decide +kernel
theorem dX8_fewest_14 : decode cX8_fewest 14 = .ok (.iconst 1, 1) := by decide +kernel
theorem dX8_fewest_15 : decode cX8_fewest 15 = .ok (.aload_n 0, 1) := by decide +kernel
theorem dX8_fewest_16 : decode cX8_fewest 16 = .ok (.invokevirtual 110, 3) := by decide +kernel
theorem dX8_fewest_19 : decode cX8_fewest 19 = .ok (.ishl, 1) := by decide +kernel
theorem dX8_fewest_20 : decode cX8_fewest 20 = .ok (.iconst 1, 1) := by decide +kernel
theorem dX8_fewest_21 : decode cX8_fewest 21 = .ok (.isub, 1) := by decide +kernel
theorem dX8_fewest_22 : decode cX8_fewest 22 = .ok (.istore_n 1, 1) := by decide +kernel
theorem dX8_fewest_23 : decode cX8_fewest 23 = .ok (.iload_n 1, 1) := by decide +kernel
theorem dX8_fewest_24 : decode cX8_fewest 24 = .ok (.istore_n 2, 1) := by decide +kernel
theorem dX8_fewest_25 : decode cX8_fewest 25 = .ok (.iload_n 2, 1) := by decide +kernel
theorem dX8_fewest_26 : decode cX8_fewest 26 = .ok (.ifCond .lt 34, 3) := by decide +kernel
theorem dX8_fewest_29 : decode cX8_fewest 29 = .ok (.iload_n 2, 1) := by decide +kernel
theorem dX8_fewest_30 : decode cX8_fewest 30 = .ok (.invokestatic 368, 3) := by decide +kernel
theorem dX8_fewest_33 : decode cX8_fewest 33 = .ok (.iload_n 1, 1) := by decide +kernel
theorem dX8_fewest_34 : decode cX8_fewest 34 = .ok (.invokestatic 368, 3) := by decide +kernel
theorem dX8_fewest_37 : decode cX8_fewest 37 = .ok (.if_icmp .gt 15, 3) := by decide +kernel
theorem dX8_fewest_40 : decode cX8_fewest 40 = .ok (.aload_n 0, 1) := by decide +kernel
theorem dX8_fewest_41 : decode cX8_fewest 41 = .ok (.iload_n 2, 1) := by decide +kernel
theorem dX8_fewest_42 : decode cX8_fewest 42 = .ok (.invokevirtual 365, 3) := by decide +kernel
theorem dX8_fewest_45 : decode cX8_fewest 45 = .ok (.ifCond .eq 7, 3) := by decide +kernel
theorem dX8_fewest_48 : decode cX8_fewest 48 = .ok (.iload_n 2, 1) := by decide +kernel
theorem dX8_fewest_49 : decode cX8_fewest 49 = .ok (.goto 4, 3) := by decide +kernel
theorem dX8_fewest_52 : decode cX8_fewest 52 = .ok (.iload_n 1, 1) := by decide +kernel
theorem dX8_fewest_53 : decode cX8_fewest 53 = .ok (.istore_n 1, 1) := by decide +kernel
theorem dX8_fewest_54 : decode cX8_fewest 54 = .ok (.iinc 2 (-1), 3) := by decide +kernel
theorem dX8_fewest_57 : decode cX8_fewest 57 = .ok (.goto (-32), 3) := by decide +kernel
theorem dX8_fewest_60 : decode cX8_fewest 60 = .ok (.iload_n 1, 1) := by decide +kernel
theorem dX8_fewest_61 : decode cX8_fewest 61 = .ok (.ireturn, 1) := by decide +kernel
theorem dX8_holds_0 : decode cX8_holds 0 = .ok (.aload_n 0, 1) := by decide +kernel
theorem dX8_holds_1 : decode cX8_holds 1 = .ok (.aload_n 0, 1) := by decide +kernel
theorem dX8_holds_2 : decode cX8_holds 2 = .ok (.iload_n 1, 1) := by decide +kernel
theorem dX8_holds_3 : decode cX8_holds 3 = .ok (.invokevirtual 371, 3) := by decide +kernel
theorem dX8_holds_6 : decode cX8_holds 6 = .ok (.ifCond .eq 7, 3) := by decide +kernel
theorem dX8_holds_9 : decode cX8_holds 9 = .ok (.iconst 0, 1) := by decide +kernel
theorem dX8_holds_10 : decode cX8_holds 10 = .ok (.goto 4, 3) := by decide +kernel
theorem dX8_holds_13 : decode cX8_holds 13 = .ok (.iconst 2, 1) := by decide +kernel
theorem dX8_holds_14 : decode cX8_holds 14 = .ok (.invokevirtual 194, 3) := by decide +kernel
theorem dX8_holds_17 : decode cX8_holds 17 = .ok (.ifCond .ne 5, 3) := by decide +kernel
theorem dX8_holds_20 : decode cX8_holds 20 = .ok (.iconst (-1), 1) := by decide +kernel
theorem dX8_holds_21 : decode cX8_holds 21 = .ok (.ireturn, 1) := by decide +kernel
theorem dX8_holds_22 : decode cX8_holds 22 = .ok (.iconst 0, 1) := by decide +kernel
theorem dX8_holds_23 : decode cX8_holds 23 = .ok (.istore_n 2, 1) := by decide +kernel
theorem dX8_holds_24 : decode cX8_holds 24 = .ok (.iconst 1, 1) := by decide +kernel
theorem dX8_holds_25 : decode cX8_holds 25 = .ok (.istore_n 3, 1) := by decide +kernel
theorem dX8_holds_26 : decode cX8_holds 26 = .ok (.iload_n 3, 1) := by decide +kernel
theorem dX8_holds_27 : decode cX8_holds 27 = .ok (.ifCond .lt 58, 3) := by decide +kernel
theorem dX8_holds_30 : decode cX8_holds 30 = .ok (.iconst 0, 1) := by decide +kernel
theorem dX8_holds_31 : decode cX8_holds 31 = .ok (.istore 4, 2) := by decide +kernel
theorem dX8_holds_33 : decode cX8_holds 33 = .ok (.iload 4, 2) := by decide +kernel
theorem dX8_holds_35 : decode cX8_holds 35 = .ok (.bipush 10, 2) := by decide +kernel
theorem dX8_holds_37 : decode cX8_holds 37 = .ok (.if_icmp .ge 42, 3) := by decide +kernel
theorem dX8_holds_40 : decode cX8_holds 40 = .ok (.iload_n 1, 1) := by decide +kernel
theorem dX8_holds_41 : decode cX8_holds 41 = .ok (.iload 4, 2) := by decide +kernel
theorem dX8_holds_43 : decode cX8_holds 43 = .ok (.invokestatic 157, 3) := by decide +kernel
theorem dX8_holds_46 : decode cX8_holds 46 = .ok (.iload_n 3, 1) := by decide +kernel
theorem dX8_holds_47 : decode cX8_holds 47 = .ok (.iconst 1, 1) := by decide +kernel
theorem dX8_holds_48 : decode cX8_holds 48 = .ok (.if_icmp .ne 7, 3) := by decide +kernel
theorem dX8_holds_51 : decode cX8_holds 51 = .ok (.iconst 1, 1) := by decide +kernel
theorem dX8_holds_52 : decode cX8_holds 52 = .ok (.goto 4, 3) := by decide +kernel
theorem dX8_holds_55 : decode cX8_holds 55 = .ok (.iconst 0, 1) := by decide +kernel
theorem dX8_holds_56 : decode cX8_holds 56 = .ok (.if_icmp .eq 6, 3) := by decide +kernel
theorem dX8_holds_59 : decode cX8_holds 59 = .ok (.goto 14, 3) := by decide +kernel
theorem dX8_holds_62 : decode cX8_holds 62 = .ok (.aload_n 0, 1) := by decide +kernel
theorem dX8_holds_63 : decode cX8_holds 63 = .ok (.getfield 31, 3) := by decide +kernel
theorem dX8_holds_66 : decode cX8_holds 66 = .ok (.iload_n 2, 1) := by decide +kernel
theorem dX8_holds_67 : decode cX8_holds 67 = .ok (.iload 4, 2) := by decide +kernel
theorem dX8_holds_69 : decode cX8_holds 69 = .ok (.iastore, 1) := by decide +kernel
theorem dX8_holds_70 : decode cX8_holds 70 = .ok (.iinc 2 1, 3) := by decide +kernel
theorem dX8_holds_73 : decode cX8_holds 73 = .ok (.iinc 4 1, 3) := by decide +kernel
theorem dX8_holds_76 : decode cX8_holds 76 = .ok (.goto (-43), 3) := by decide +kernel
theorem dX8_holds_79 : decode cX8_holds 79 = .ok (.iinc 3 (-1), 3) := by decide +kernel
theorem dX8_holds_82 : decode cX8_holds 82 = .ok (.goto (-56), 3) := by decide +kernel
theorem dX8_holds_85 : decode cX8_holds 85 = .ok (.aload_n 0, 1) := by decide +kernel
theorem dX8_holds_86 : decode cX8_holds 86 = .ok (.getfield 31, 3) := by decide +kernel
theorem dX8_holds_89 : decode cX8_holds 89 = .ok (.iconst 0, 1) := by decide +kernel
theorem dX8_holds_90 : decode cX8_holds 90 = .ok (.aload_n 0, 1) := by decide +kernel
theorem dX8_holds_91 : decode cX8_holds 91 = .ok (.getfield 16, 3) := by decide +kernel
theorem dX8_holds_94 : decode cX8_holds 94 = .ok (.iconst 0, 1) := by decide +kernel
theorem dX8_holds_95 : decode cX8_holds 95 = .ok (.invokestatic 100, 3) := by decide +kernel
theorem dX8_holds_98 : decode cX8_holds 98 = .ok (.aload_n 0, 1) := by decide +kernel
theorem dX8_holds_99 : decode cX8_holds 99 = .ok (.getfield 16, 3) := by decide +kernel
theorem dX8_holds_102 : decode cX8_holds 102 = .ok (.aload_n 0, 1) := by decide +kernel
theorem dX8_holds_103 : decode cX8_holds 103 = .ok (.getfield 19, 3) := by decide +kernel
theorem dX8_holds_106 : decode cX8_holds 106 = .ok (.invokestatic 130, 3) := by decide +kernel
theorem dX8_holds_109 : decode cX8_holds 109 = .ok (.aload_n 0, 1) := by decide +kernel
theorem dX8_holds_110 : decode cX8_holds 110 = .ok (.iconst 1, 1) := by decide +kernel
theorem dX8_holds_111 : decode cX8_holds 111 = .ok (.invokevirtual 154, 3) := by decide +kernel
theorem dX8_holds_114 : decode cX8_holds 114 = .ok (.iconst 0, 1) := by decide +kernel
theorem dX8_holds_115 : decode cX8_holds 115 = .ok (.istore_n 3, 1) := by decide +kernel
theorem dX8_holds_116 : decode cX8_holds 116 = .ok (.iload_n 3, 1) := by decide +kernel
theorem dX8_holds_117 : decode cX8_holds 117 = .ok (.aload_n 0, 1) := by decide +kernel
theorem dX8_holds_118 : decode cX8_holds 118 = .ok (.invokevirtual 110, 3) := by decide +kernel
theorem dX8_holds_121 : decode cX8_holds 121 = .ok (.if_icmp .ge 66, 3) := by decide +kernel
theorem dX8_holds_124 : decode cX8_holds 124 = .ok (.iconst 0, 1) := by decide +kernel
theorem dX8_holds_125 : decode cX8_holds 125 = .ok (.istore 4, 2) := by decide +kernel
theorem dX8_holds_127 : decode cX8_holds 127 = .ok (.iload 4, 2) := by decide +kernel
theorem dX8_holds_129 : decode cX8_holds 129 = .ok (.bipush 10, 2) := by decide +kernel
theorem dX8_holds_131 : decode cX8_holds 131 = .ok (.if_icmp .ge 41, 3) := by decide +kernel
theorem dX8_holds_134 : decode cX8_holds 134 = .ok (.aload_n 0, 1) := by decide +kernel
theorem dX8_holds_135 : decode cX8_holds 135 = .ok (.getfield 22, 3) := by decide +kernel
theorem dX8_holds_138 : decode cX8_holds 138 = .ok (.iload 4, 2) := by decide +kernel
theorem dX8_holds_140 : decode cX8_holds 140 = .ok (.aload_n 0, 1) := by decide +kernel
theorem dX8_holds_141 : decode cX8_holds 141 = .ok (.getfield 19, 3) := by decide +kernel
theorem dX8_holds_144 : decode cX8_holds 144 = .ok (.aload_n 0, 1) := by decide +kernel
theorem dX8_holds_145 : decode cX8_holds 145 = .ok (.getfield 7, 3) := by decide +kernel
theorem dX8_holds_148 : decode cX8_holds 148 = .ok (.bipush 11, 2) := by decide +kernel
theorem dX8_holds_150 : decode cX8_holds 150 = .ok (.bipush 10, 2) := by decide +kernel
theorem dX8_holds_152 : decode cX8_holds 152 = .ok (.iload_n 3, 1) := by decide +kernel
theorem dX8_holds_153 : decode cX8_holds 153 = .ok (.imul, 1) := by decide +kernel
theorem dX8_holds_154 : decode cX8_holds 154 = .ok (.iadd, 1) := by decide +kernel
theorem dX8_holds_155 : decode cX8_holds 155 = .ok (.aload_n 0, 1) := by decide +kernel
theorem dX8_holds_156 : decode cX8_holds 156 = .ok (.getfield 16, 3) := by decide +kernel
theorem dX8_holds_159 : decode cX8_holds 159 = .ok (.iload 4, 2) := by decide +kernel
theorem dX8_holds_161 : decode cX8_holds 161 = .ok (.iaload, 1) := by decide +kernel
theorem dX8_holds_162 : decode cX8_holds 162 = .ok (.iadd, 1) := by decide +kernel
theorem dX8_holds_163 : decode cX8_holds 163 = .ok (.iaload, 1) := by decide +kernel
theorem dX8_holds_164 : decode cX8_holds 164 = .ok (.iaload, 1) := by decide +kernel
theorem dX8_holds_165 : decode cX8_holds 165 = .ok (.iastore, 1) := by decide +kernel
theorem dX8_holds_166 : decode cX8_holds 166 = .ok (.iinc 4 1, 3) := by decide +kernel
theorem dX8_holds_169 : decode cX8_holds 169 = .ok (.goto (-42), 3) := by decide +kernel
theorem dX8_holds_172 : decode cX8_holds 172 = .ok (.aload_n 0, 1) := by decide +kernel
theorem dX8_holds_173 : decode cX8_holds 173 = .ok (.iconst 1, 1) := by decide +kernel
theorem dX8_holds_174 : decode cX8_holds 174 = .ok (.aload_n 0, 1) := by decide +kernel
theorem dX8_holds_175 : decode cX8_holds 175 = .ok (.getfield 22, 3) := by decide +kernel
theorem dX8_holds_178 : decode cX8_holds 178 = .ok (.invokevirtual 161, 3) := by decide +kernel
theorem dX8_holds_181 : decode cX8_holds 181 = .ok (.iinc 3 1, 3) := by decide +kernel
theorem dX8_holds_184 : decode cX8_holds 184 = .ok (.goto (-68), 3) := by decide +kernel
theorem dX8_holds_187 : decode cX8_holds 187 = .ok (.aload_n 0, 1) := by decide +kernel
theorem dX8_holds_188 : decode cX8_holds 188 = .ok (.iconst 1, 1) := by decide +kernel
theorem dX8_holds_189 : decode cX8_holds 189 = .ok (.iload_n 1, 1) := by decide +kernel
theorem dX8_holds_190 : decode cX8_holds 190 = .ok (.invokestatic 368, 3) := by decide +kernel
theorem dX8_holds_193 : decode cX8_holds 193 = .ok (.invokevirtual 168, 3) := by decide +kernel
theorem dX8_holds_196 : decode cX8_holds 196 = .ok (.ireturn, 1) := by decide +kernel
theorem dX8_imageOf_0 : decode cX8_imageOf 0 = .ok (.iconst 0, 1) := by decide +kernel
theorem dX8_imageOf_1 : decode cX8_imageOf 1 = .ok (.istore_n 2, 1) := by decide +kernel
theorem dX8_imageOf_2 : decode cX8_imageOf 2 = .ok (.iconst 0, 1) := by decide +kernel
theorem dX8_imageOf_3 : decode cX8_imageOf 3 = .ok (.istore_n 3, 1) := by decide +kernel
theorem dX8_imageOf_4 : decode cX8_imageOf 4 = .ok (.iload_n 3, 1) := by decide +kernel
theorem dX8_imageOf_5 : decode cX8_imageOf 5 = .ok (.bipush 10, 2) := by decide +kernel
theorem dX8_imageOf_7 : decode cX8_imageOf 7 = .ok (.if_icmp .ge 29, 3) := by decide +kernel
theorem dX8_imageOf_10 : decode cX8_imageOf 10 = .ok (.iload_n 2, 1) := by decide +kernel
theorem dX8_imageOf_11 : decode cX8_imageOf 11 = .ok (.iload_n 1, 1) := by decide +kernel
theorem dX8_imageOf_12 : decode cX8_imageOf 12 = .ok (.iload_n 3, 1) := by decide +kernel
theorem dX8_imageOf_13 : decode cX8_imageOf 13 = .ok (.invokestatic 157, 3) := by decide +kernel
theorem dX8_imageOf_16 : decode cX8_imageOf 16 = .ok (.ifCond .eq 11, 3) := by decide +kernel
theorem dX8_imageOf_19 : decode cX8_imageOf 19 = .ok (.iconst 1, 1) := by decide +kernel
theorem dX8_imageOf_20 : decode cX8_imageOf 20 = .ok (.aload_n 0, 1) := by decide +kernel
theorem dX8_imageOf_21 : decode cX8_imageOf 21 = .ok (.iload_n 3, 1) := by decide +kernel
theorem dX8_imageOf_22 : decode cX8_imageOf 22 = .ok (.iaload, 1) := by decide +kernel
theorem dX8_imageOf_23 : decode cX8_imageOf 23 = .ok (.ishl, 1) := by decide +kernel
theorem dX8_imageOf_24 : decode cX8_imageOf 24 = .ok (.goto 4, 3) := by decide +kernel
theorem dX8_imageOf_27 : decode cX8_imageOf 27 = .ok (.iconst 0, 1) := by decide +kernel
theorem dX8_imageOf_28 : decode cX8_imageOf 28 = .ok (.ior, 1) := by decide +kernel
theorem dX8_imageOf_29 : decode cX8_imageOf 29 = .ok (.istore_n 2, 1) := by decide +kernel
theorem dX8_imageOf_30 : decode cX8_imageOf 30 = .ok (.iinc 3 1, 3) := by decide +kernel
theorem dX8_imageOf_33 : decode cX8_imageOf 33 = .ok (.goto (-29), 3) := by decide +kernel
theorem dX8_imageOf_36 : decode cX8_imageOf 36 = .ok (.iload_n 2, 1) := by decide +kernel
theorem dX8_imageOf_37 : decode cX8_imageOf 37 = .ok (.ireturn, 1) := by decide +kernel
theorem dX8_keeps_0 : decode cX8_keeps 0 = .ok (.aload_n 0, 1) := by decide +kernel
theorem dX8_keeps_1 : decode cX8_keeps 1 = .ok (.aload_n 0, 1) := by decide +kernel
theorem dX8_keeps_2 : decode cX8_keeps 2 = .ok (.aload_n 0, 1) := by decide +kernel
theorem dX8_keeps_3 : decode cX8_keeps 3 = .ok (.iload_n 1, 1) := by decide +kernel
theorem dX8_keeps_4 : decode cX8_keeps 4 = .ok (.invokevirtual 371, 3) := by decide +kernel
theorem dX8_keeps_7 : decode cX8_keeps 7 = .ok (.ifCond .eq 7, 3) := by decide +kernel
theorem dX8_keeps_10 : decode cX8_keeps 10 = .ok (.iconst 0, 1) := by decide +kernel
theorem dX8_keeps_11 : decode cX8_keeps 11 = .ok (.goto 4, 3) := by decide +kernel
theorem dX8_keeps_14 : decode cX8_keeps 14 = .ok (.iconst 2, 1) := by decide +kernel
theorem dX8_keeps_15 : decode cX8_keeps 15 = .ok (.invokevirtual 299, 3) := by decide +kernel
theorem dX8_keeps_18 : decode cX8_keeps 18 = .ok (.invokevirtual 194, 3) := by decide +kernel
theorem dX8_keeps_21 : decode cX8_keeps 21 = .ok (.ifCond .ne 5, 3) := by decide +kernel
theorem dX8_keeps_24 : decode cX8_keeps 24 = .ok (.iconst (-1), 1) := by decide +kernel
theorem dX8_keeps_25 : decode cX8_keeps 25 = .ok (.ireturn, 1) := by decide +kernel
theorem dX8_keeps_26 : decode cX8_keeps 26 = .ok (.aload_n 0, 1) := by decide +kernel
theorem dX8_keeps_27 : decode cX8_keeps 27 = .ok (.invokevirtual 293, 3) := by decide +kernel
theorem dX8_keeps_30 : decode cX8_keeps 30 = .ok (.iconst 0, 1) := by decide +kernel
theorem dX8_keeps_31 : decode cX8_keeps 31 = .ok (.istore_n 2, 1) := by decide +kernel
theorem dX8_keeps_32 : decode cX8_keeps 32 = .ok (.iconst 0, 1) := by decide +kernel
theorem dX8_keeps_33 : decode cX8_keeps 33 = .ok (.istore_n 3, 1) := by decide +kernel
theorem dX8_keeps_34 : decode cX8_keeps 34 = .ok (.iload_n 3, 1) := by decide +kernel
theorem dX8_keeps_35 : decode cX8_keeps 35 = .ok (.aload_n 0, 1) := by decide +kernel
theorem dX8_keeps_36 : decode cX8_keeps 36 = .ok (.getfield 290, 3) := by decide +kernel
theorem dX8_keeps_39 : decode cX8_keeps 39 = .ok (.if_icmp .ge 38, 3) := by decide +kernel
theorem dX8_keeps_42 : decode cX8_keeps 42 = .ok (.aload_n 0, 1) := by decide +kernel
theorem dX8_keeps_43 : decode cX8_keeps 43 = .ok (.iload_n 3, 1) := by decide +kernel
theorem dX8_keeps_44 : decode cX8_keeps 44 = .ok (.aload_n 0, 1) := by decide +kernel
theorem dX8_keeps_45 : decode cX8_keeps 45 = .ok (.getfield 16, 3) := by decide +kernel
theorem dX8_keeps_48 : decode cX8_keeps 48 = .ok (.invokevirtual 296, 3) := by decide +kernel
theorem dX8_keeps_51 : decode cX8_keeps 51 = .ok (.iload_n 2, 1) := by decide +kernel
theorem dX8_keeps_52 : decode cX8_keeps 52 = .ok (.aload_n 0, 1) := by decide +kernel
theorem dX8_keeps_53 : decode cX8_keeps 53 = .ok (.getfield 16, 3) := by decide +kernel
theorem dX8_keeps_56 : decode cX8_keeps 56 = .ok (.iload_n 1, 1) := by decide +kernel
theorem dX8_keeps_57 : decode cX8_keeps 57 = .ok (.invokestatic 374, 3) := by decide +kernel
theorem dX8_keeps_60 : decode cX8_keeps 60 = .ok (.iload_n 1, 1) := by decide +kernel
theorem dX8_keeps_61 : decode cX8_keeps 61 = .ok (.if_icmp .ne 7, 3) := by decide +kernel
theorem dX8_keeps_64 : decode cX8_keeps 64 = .ok (.iconst 1, 1) := by decide +kernel
theorem dX8_keeps_65 : decode cX8_keeps 65 = .ok (.goto 4, 3) := by decide +kernel
theorem dX8_keeps_68 : decode cX8_keeps 68 = .ok (.iconst 0, 1) := by decide +kernel
theorem dX8_keeps_69 : decode cX8_keeps 69 = .ok (.iadd, 1) := by decide +kernel
theorem dX8_keeps_70 : decode cX8_keeps 70 = .ok (.istore_n 2, 1) := by decide +kernel
theorem dX8_keeps_71 : decode cX8_keeps 71 = .ok (.iinc 3 1, 3) := by decide +kernel
theorem dX8_keeps_74 : decode cX8_keeps 74 = .ok (.goto (-40), 3) := by decide +kernel
theorem dX8_keeps_77 : decode cX8_keeps 77 = .ok (.iload_n 2, 1) := by decide +kernel
theorem dX8_keeps_78 : decode cX8_keeps 78 = .ok (.ireturn, 1) := by decide +kernel
theorem dX8_brings_0 : decode cX8_brings 0 = .ok (.aload_n 0, 1) := by decide +kernel
theorem dX8_brings_1 : decode cX8_brings 1 = .ok (.aload_n 0, 1) := by decide +kernel
theorem dX8_brings_2 : decode cX8_brings 2 = .ok (.aload_n 0, 1) := by decide +kernel
theorem dX8_brings_3 : decode cX8_brings 3 = .ok (.iload_n 1, 1) := by decide +kernel
theorem dX8_brings_4 : decode cX8_brings 4 = .ok (.invokevirtual 371, 3) := by decide +kernel
theorem dX8_brings_7 : decode cX8_brings 7 = .ok (.ifCond .eq 15, 3) := by decide +kernel
theorem dX8_brings_10 : decode cX8_brings 10 = .ok (.aload_n 0, 1) := by decide +kernel
theorem dX8_brings_11 : decode cX8_brings 11 = .ok (.iload_n 2, 1) := by decide +kernel
theorem dX8_brings_12 : decode cX8_brings 12 = .ok (.invokevirtual 371, 3) := by decide +kernel
theorem dX8_brings_15 : decode cX8_brings 15 = .ok (.ifCond .eq 7, 3) := by decide +kernel
theorem dX8_brings_18 : decode cX8_brings 18 = .ok (.iconst 0, 1) := by decide +kernel
theorem dX8_brings_19 : decode cX8_brings 19 = .ok (.goto 4, 3) := by decide +kernel
theorem dX8_brings_22 : decode cX8_brings 22 = .ok (.iconst 2, 1) := by decide +kernel
theorem dX8_brings_23 : decode cX8_brings 23 = .ok (.invokevirtual 299, 3) := by decide +kernel
theorem dX8_brings_26 : decode cX8_brings 26 = .ok (.invokevirtual 194, 3) := by decide +kernel
theorem dX8_brings_29 : decode cX8_brings 29 = .ok (.ifCond .ne 5, 3) := by decide +kernel
theorem dX8_brings_32 : decode cX8_brings 32 = .ok (.iconst (-1), 1) := by decide +kernel
theorem dX8_brings_33 : decode cX8_brings 33 = .ok (.ireturn, 1) := by decide +kernel
theorem dX8_brings_34 : decode cX8_brings 34 = .ok (.aload_n 0, 1) := by decide +kernel
theorem dX8_brings_35 : decode cX8_brings 35 = .ok (.invokevirtual 293, 3) := by decide +kernel
theorem dX8_brings_38 : decode cX8_brings 38 = .ok (.iconst 0, 1) := by decide +kernel
theorem dX8_brings_39 : decode cX8_brings 39 = .ok (.istore_n 3, 1) := by decide +kernel
theorem dX8_brings_40 : decode cX8_brings 40 = .ok (.iload_n 3, 1) := by decide +kernel
theorem dX8_brings_41 : decode cX8_brings 41 = .ok (.aload_n 0, 1) := by decide +kernel
theorem dX8_brings_42 : decode cX8_brings 42 = .ok (.getfield 290, 3) := by decide +kernel
theorem dX8_brings_45 : decode cX8_brings 45 = .ok (.if_icmp .ge 32, 3) := by decide +kernel
theorem dX8_brings_48 : decode cX8_brings 48 = .ok (.aload_n 0, 1) := by decide +kernel
theorem dX8_brings_49 : decode cX8_brings 49 = .ok (.iload_n 3, 1) := by decide +kernel
theorem dX8_brings_50 : decode cX8_brings 50 = .ok (.aload_n 0, 1) := by decide +kernel
theorem dX8_brings_51 : decode cX8_brings 51 = .ok (.getfield 16, 3) := by decide +kernel
theorem dX8_brings_54 : decode cX8_brings 54 = .ok (.invokevirtual 296, 3) := by decide +kernel
theorem dX8_brings_57 : decode cX8_brings 57 = .ok (.aload_n 0, 1) := by decide +kernel
theorem dX8_brings_58 : decode cX8_brings 58 = .ok (.getfield 16, 3) := by decide +kernel
theorem dX8_brings_61 : decode cX8_brings 61 = .ok (.iload_n 1, 1) := by decide +kernel
theorem dX8_brings_62 : decode cX8_brings 62 = .ok (.invokestatic 374, 3) := by decide +kernel
theorem dX8_brings_65 : decode cX8_brings 65 = .ok (.iload_n 2, 1) := by decide +kernel
theorem dX8_brings_66 : decode cX8_brings 66 = .ok (.if_icmp .ne 5, 3) := by decide +kernel
theorem dX8_brings_69 : decode cX8_brings 69 = .ok (.iload_n 3, 1) := by decide +kernel
theorem dX8_brings_70 : decode cX8_brings 70 = .ok (.ireturn, 1) := by decide +kernel
theorem dX8_brings_71 : decode cX8_brings 71 = .ok (.iinc 3 1, 3) := by decide +kernel
theorem dX8_brings_74 : decode cX8_brings 74 = .ok (.goto (-34), 3) := by decide +kernel
theorem dX8_brings_77 : decode cX8_brings 77 = .ok (.aload_n 0, 1) := by decide +kernel
theorem dX8_brings_78 : decode cX8_brings 78 = .ok (.iconst 5, 1) := by decide +kernel
theorem dX8_brings_79 : decode cX8_brings 79 = .ok (.invokevirtual 266, 3) := by decide +kernel
theorem dX8_brings_82 : decode cX8_brings 82 = .ok (.ireturn, 1) := by decide +kernel
theorem dX8_joins_0 : decode cX8_joins 0 = .ok (.aload_n 0, 1) := by decide +kernel
theorem dX8_joins_1 : decode cX8_joins 1 = .ok (.getfield 72, 3) := by decide +kernel
theorem dX8_joins_4 : decode cX8_joins 4 = .ok (.iload_n 1, 1) := by decide +kernel
theorem dX8_joins_5 : decode cX8_joins 5 = .ok (.iaload, 1) := by decide +kernel
theorem dX8_joins_6 : decode cX8_joins 6 = .ok (.istore_n 3, 1) := by decide +kernel
theorem dX8_joins_7 : decode cX8_joins 7 = .ok (.aload_n 0, 1) := by decide +kernel
theorem dX8_joins_8 : decode cX8_joins 8 = .ok (.getfield 72, 3) := by decide +kernel
theorem dX8_joins_11 : decode cX8_joins 11 = .ok (.iload_n 2, 1) := by decide +kernel
theorem dX8_joins_12 : decode cX8_joins 12 = .ok (.iaload, 1) := by decide +kernel
theorem dX8_joins_13 : decode cX8_joins 13 = .ok (.istore 4, 2) := by decide +kernel
theorem dX8_joins_15 : decode cX8_joins 15 = .ok (.iconst 0, 1) := by decide +kernel
theorem dX8_joins_16 : decode cX8_joins 16 = .ok (.istore 5, 2) := by decide +kernel
theorem dX8_joins_18 : decode cX8_joins 18 = .ok (.iload 5, 2) := by decide +kernel
theorem dX8_joins_20 : decode cX8_joins 20 = .ok (.bipush 10, 2) := by decide +kernel
theorem dX8_joins_22 : decode cX8_joins 22 = .ok (.if_icmp .ge 39, 3) := by decide +kernel
theorem dX8_joins_25 : decode cX8_joins 25 = .ok (.aload_n 0, 1) := by decide +kernel
theorem dX8_joins_26 : decode cX8_joins 26 = .ok (.getfield 72, 3) := by decide +kernel
theorem dX8_joins_29 : decode cX8_joins 29 = .ok (.iload 5, 2) := by decide +kernel
theorem dX8_joins_31 : decode cX8_joins 31 = .ok (.aload_n 0, 1) := by decide +kernel
theorem dX8_joins_32 : decode cX8_joins 32 = .ok (.getfield 72, 3) := by decide +kernel
theorem dX8_joins_35 : decode cX8_joins 35 = .ok (.iload 5, 2) := by decide +kernel
theorem dX8_joins_37 : decode cX8_joins 37 = .ok (.iaload, 1) := by decide +kernel
theorem dX8_joins_38 : decode cX8_joins 38 = .ok (.iload 4, 2) := by decide +kernel
theorem dX8_joins_40 : decode cX8_joins 40 = .ok (.if_icmp .ne 7, 3) := by decide +kernel
theorem dX8_joins_43 : decode cX8_joins 43 = .ok (.iload_n 3, 1) := by decide +kernel
theorem dX8_joins_44 : decode cX8_joins 44 = .ok (.goto 10, 3) := by decide +kernel
theorem dX8_joins_47 : decode cX8_joins 47 = .ok (.aload_n 0, 1) := by decide +kernel
theorem dX8_joins_48 : decode cX8_joins 48 = .ok (.getfield 72, 3) := by decide +kernel
theorem dX8_joins_51 : decode cX8_joins 51 = .ok (.iload 5, 2) := by decide +kernel
theorem dX8_joins_53 : decode cX8_joins 53 = .ok (.iaload, 1) := by decide +kernel
theorem dX8_joins_54 : decode cX8_joins 54 = .ok (.iastore, 1) := by decide +kernel
theorem dX8_joins_55 : decode cX8_joins 55 = .ok (.iinc 5 1, 3) := by decide +kernel
theorem dX8_joins_58 : decode cX8_joins 58 = .ok (.goto (-40), 3) := by decide +kernel
theorem dX8_joins_61 : decode cX8_joins 61 = .ok (.iload_n 3, 1) := by decide +kernel
theorem dX8_joins_62 : decode cX8_joins 62 = .ok (.iload 4, 2) := by decide +kernel
theorem dX8_joins_64 : decode cX8_joins 64 = .ok (.if_icmp .eq 7, 3) := by decide +kernel
theorem dX8_joins_67 : decode cX8_joins 67 = .ok (.iconst 1, 1) := by decide +kernel
theorem dX8_joins_68 : decode cX8_joins 68 = .ok (.goto 4, 3) := by decide +kernel
theorem dX8_joins_71 : decode cX8_joins 71 = .ok (.iconst 0, 1) := by decide +kernel
theorem dX8_joins_72 : decode cX8_joins 72 = .ok (.ireturn, 1) := by decide +kernel
theorem dX8_blockOf_0 : decode cX8_blockOf 0 = .ok (.aload_n 0, 1) := by decide +kernel
theorem dX8_blockOf_1 : decode cX8_blockOf 1 = .ok (.getfield 72, 3) := by decide +kernel
theorem dX8_blockOf_4 : decode cX8_blockOf 4 = .ok (.invokestatic 96, 3) := by decide +kernel
theorem dX8_blockOf_7 : decode cX8_blockOf 7 = .ok (.aload_n 0, 1) := by decide +kernel
theorem dX8_blockOf_8 : decode cX8_blockOf 8 = .ok (.iload_n 1, 1) := by decide +kernel
theorem dX8_blockOf_9 : decode cX8_blockOf 9 = .ok (.iload_n 2, 1) := by decide +kernel
theorem dX8_blockOf_10 : decode cX8_blockOf 10 = .ok (.invokevirtual 377, 3) := by decide +kernel
theorem dX8_blockOf_13 : decode cX8_blockOf 13 = .ok (.pop, 1) := by decide +kernel
theorem dX8_blockOf_14 : decode cX8_blockOf 14 = .ok (.iconst 1, 1) := by decide +kernel
theorem dX8_blockOf_15 : decode cX8_blockOf 15 = .ok (.istore_n 3, 1) := by decide +kernel
theorem dX8_blockOf_16 : decode cX8_blockOf 16 = .ok (.iload_n 3, 1) := by decide +kernel
theorem dX8_blockOf_17 : decode cX8_blockOf 17 = .ok (.ifCond .eq 116, 3) := by decide +kernel
theorem dX8_blockOf_20 : decode cX8_blockOf 20 = .ok (.iconst 0, 1) := by decide +kernel
theorem dX8_blockOf_21 : decode cX8_blockOf 21 = .ok (.istore_n 3, 1) := by decide +kernel
theorem dX8_blockOf_22 : decode cX8_blockOf 22 = .ok (.iconst 0, 1) := by decide +kernel
theorem dX8_blockOf_23 : decode cX8_blockOf 23 = .ok (.istore 4, 2) := by decide +kernel
theorem dX8_blockOf_25 : decode cX8_blockOf 25 = .ok (.iload 4, 2) := by decide +kernel
theorem dX8_blockOf_27 : decode cX8_blockOf 27 = .ok (.aload_n 0, 1) := by decide +kernel
theorem dX8_blockOf_28 : decode cX8_blockOf 28 = .ok (.invokevirtual 110, 3) := by decide +kernel
theorem dX8_blockOf_31 : decode cX8_blockOf 31 = .ok (.if_icmp .ge 99, 3) := by decide +kernel
theorem dX8_blockOf_34 : decode cX8_blockOf 34 = .ok (.iconst 0, 1) := by decide +kernel
theorem dX8_blockOf_35 : decode cX8_blockOf 35 = .ok (.istore 5, 2) := by decide +kernel
theorem dX8_blockOf_37 : decode cX8_blockOf 37 = .ok (.iload 5, 2) := by decide +kernel
theorem dX8_blockOf_39 : decode cX8_blockOf 39 = .ok (.aload_n 0, 1) := by decide +kernel
theorem dX8_blockOf_40 : decode cX8_blockOf 40 = .ok (.getfield 118, 3) := by decide +kernel
theorem dX8_blockOf_43 : decode cX8_blockOf 43 = .ok (.if_icmp .ge 81, 3) := by decide +kernel
theorem dX8_blockOf_46 : decode cX8_blockOf 46 = .ok (.iconst 0, 1) := by decide +kernel
theorem dX8_blockOf_47 : decode cX8_blockOf 47 = .ok (.istore 6, 2) := by decide +kernel
theorem dX8_blockOf_49 : decode cX8_blockOf 49 = .ok (.iload 6, 2) := by decide +kernel
theorem dX8_blockOf_51 : decode cX8_blockOf 51 = .ok (.iload 5, 2) := by decide +kernel
theorem dX8_blockOf_53 : decode cX8_blockOf 53 = .ok (.if_icmp .ge 65, 3) := by decide +kernel
theorem dX8_blockOf_56 : decode cX8_blockOf 56 = .ok (.aload_n 0, 1) := by decide +kernel
theorem dX8_blockOf_57 : decode cX8_blockOf 57 = .ok (.getfield 72, 3) := by decide +kernel
theorem dX8_blockOf_60 : decode cX8_blockOf 60 = .ok (.iload 5, 2) := by decide +kernel
theorem dX8_blockOf_62 : decode cX8_blockOf 62 = .ok (.iaload, 1) := by decide +kernel
theorem dX8_blockOf_63 : decode cX8_blockOf 63 = .ok (.aload_n 0, 1) := by decide +kernel
theorem dX8_blockOf_64 : decode cX8_blockOf 64 = .ok (.getfield 72, 3) := by decide +kernel
theorem dX8_blockOf_67 : decode cX8_blockOf 67 = .ok (.iload 6, 2) := by decide +kernel
theorem dX8_blockOf_69 : decode cX8_blockOf 69 = .ok (.iaload, 1) := by decide +kernel
theorem dX8_blockOf_70 : decode cX8_blockOf 70 = .ok (.if_icmp .ne 42, 3) := by decide +kernel
theorem dX8_blockOf_73 : decode cX8_blockOf 73 = .ok (.iload_n 3, 1) := by decide +kernel
theorem dX8_blockOf_74 : decode cX8_blockOf 74 = .ok (.aload_n 0, 1) := by decide +kernel
theorem dX8_blockOf_75 : decode cX8_blockOf 75 = .ok (.aload_n 0, 1) := by decide +kernel
theorem dX8_blockOf_76 : decode cX8_blockOf 76 = .ok (.getfield 7, 3) := by decide +kernel
theorem dX8_blockOf_79 : decode cX8_blockOf 79 = .ok (.bipush 11, 2) := by decide +kernel
theorem dX8_blockOf_81 : decode cX8_blockOf 81 = .ok (.bipush 10, 2) := by decide +kernel
theorem dX8_blockOf_83 : decode cX8_blockOf 83 = .ok (.iload 4, 2) := by decide +kernel
theorem dX8_blockOf_85 : decode cX8_blockOf 85 = .ok (.imul, 1) := by decide +kernel
theorem dX8_blockOf_86 : decode cX8_blockOf 86 = .ok (.iadd, 1) := by decide +kernel
theorem dX8_blockOf_87 : decode cX8_blockOf 87 = .ok (.iload 5, 2) := by decide +kernel
theorem dX8_blockOf_89 : decode cX8_blockOf 89 = .ok (.iadd, 1) := by decide +kernel
theorem dX8_blockOf_90 : decode cX8_blockOf 90 = .ok (.iaload, 1) := by decide +kernel
theorem dX8_blockOf_91 : decode cX8_blockOf 91 = .ok (.aload_n 0, 1) := by decide +kernel
theorem dX8_blockOf_92 : decode cX8_blockOf 92 = .ok (.getfield 7, 3) := by decide +kernel
theorem dX8_blockOf_95 : decode cX8_blockOf 95 = .ok (.bipush 11, 2) := by decide +kernel
theorem dX8_blockOf_97 : decode cX8_blockOf 97 = .ok (.bipush 10, 2) := by decide +kernel
theorem dX8_blockOf_99 : decode cX8_blockOf 99 = .ok (.iload 4, 2) := by decide +kernel
theorem dX8_blockOf_101 : decode cX8_blockOf 101 = .ok (.imul, 1) := by decide +kernel
theorem dX8_blockOf_102 : decode cX8_blockOf 102 = .ok (.iadd, 1) := by decide +kernel
theorem dX8_blockOf_103 : decode cX8_blockOf 103 = .ok (.iload 6, 2) := by decide +kernel
theorem dX8_blockOf_105 : decode cX8_blockOf 105 = .ok (.iadd, 1) := by decide +kernel
theorem dX8_blockOf_106 : decode cX8_blockOf 106 = .ok (.iaload, 1) := by decide +kernel
theorem dX8_blockOf_107 : decode cX8_blockOf 107 = .ok (.invokevirtual 377, 3) := by decide +kernel
theorem dX8_blockOf_110 : decode cX8_blockOf 110 = .ok (.ior, 1) := by decide +kernel
theorem dX8_blockOf_111 : decode cX8_blockOf 111 = .ok (.istore_n 3, 1) := by decide +kernel
theorem dX8_blockOf_112 : decode cX8_blockOf 112 = .ok (.iinc 6 1, 3) := by decide +kernel
theorem dX8_blockOf_115 : decode cX8_blockOf 115 = .ok (.goto (-66), 3) := by decide +kernel
theorem dX8_blockOf_118 : decode cX8_blockOf 118 = .ok (.iinc 5 1, 3) := by decide +kernel
theorem dX8_blockOf_121 : decode cX8_blockOf 121 = .ok (.goto (-84), 3) := by decide +kernel
theorem dX8_blockOf_124 : decode cX8_blockOf 124 = .ok (.iinc 4 1, 3) := by decide +kernel
theorem dX8_blockOf_127 : decode cX8_blockOf 127 = .ok (.goto (-102), 3) := by decide +kernel
theorem dX8_blockOf_130 : decode cX8_blockOf 130 = .ok (.goto (-114), 3) := by decide +kernel
theorem dX8_blockOf_133 : decode cX8_blockOf 133 = .ok (.iconst 0, 1) := by decide +kernel
theorem dX8_blockOf_134 : decode cX8_blockOf 134 = .ok (.istore 4, 2) := by decide +kernel
theorem dX8_blockOf_136 : decode cX8_blockOf 136 = .ok (.iconst 0, 1) := by decide +kernel
theorem dX8_blockOf_137 : decode cX8_blockOf 137 = .ok (.istore 5, 2) := by decide +kernel
theorem dX8_blockOf_139 : decode cX8_blockOf 139 = .ok (.iload 5, 2) := by decide +kernel
theorem dX8_blockOf_141 : decode cX8_blockOf 141 = .ok (.aload_n 0, 1) := by decide +kernel
theorem dX8_blockOf_142 : decode cX8_blockOf 142 = .ok (.getfield 118, 3) := by decide +kernel
theorem dX8_blockOf_145 : decode cX8_blockOf 145 = .ok (.if_icmp .ge 38, 3) := by decide +kernel
theorem dX8_blockOf_148 : decode cX8_blockOf 148 = .ok (.iload 4, 2) := by decide +kernel
theorem dX8_blockOf_150 : decode cX8_blockOf 150 = .ok (.aload_n 0, 1) := by decide +kernel
theorem dX8_blockOf_151 : decode cX8_blockOf 151 = .ok (.getfield 72, 3) := by decide +kernel
theorem dX8_blockOf_154 : decode cX8_blockOf 154 = .ok (.iload 5, 2) := by decide +kernel
theorem dX8_blockOf_156 : decode cX8_blockOf 156 = .ok (.iaload, 1) := by decide +kernel
theorem dX8_blockOf_157 : decode cX8_blockOf 157 = .ok (.aload_n 0, 1) := by decide +kernel
theorem dX8_blockOf_158 : decode cX8_blockOf 158 = .ok (.getfield 72, 3) := by decide +kernel
theorem dX8_blockOf_161 : decode cX8_blockOf 161 = .ok (.iload_n 1, 1) := by decide +kernel
theorem dX8_blockOf_162 : decode cX8_blockOf 162 = .ok (.iaload, 1) := by decide +kernel
theorem dX8_blockOf_163 : decode cX8_blockOf 163 = .ok (.if_icmp .ne 10, 3) := by decide +kernel
theorem dX8_blockOf_166 : decode cX8_blockOf 166 = .ok (.iconst 1, 1) := by decide +kernel
theorem dX8_blockOf_167 : decode cX8_blockOf 167 = .ok (.iload 5, 2) := by decide +kernel
theorem dX8_blockOf_169 : decode cX8_blockOf 169 = .ok (.ishl, 1) := by decide +kernel
theorem dX8_blockOf_170 : decode cX8_blockOf 170 = .ok (.goto 4, 3) := by decide +kernel
theorem dX8_blockOf_173 : decode cX8_blockOf 173 = .ok (.iconst 0, 1) := by decide +kernel
theorem dX8_blockOf_174 : decode cX8_blockOf 174 = .ok (.ior, 1) := by decide +kernel
theorem dX8_blockOf_175 : decode cX8_blockOf 175 = .ok (.istore 4, 2) := by decide +kernel
theorem dX8_blockOf_177 : decode cX8_blockOf 177 = .ok (.iinc 5 1, 3) := by decide +kernel
theorem dX8_blockOf_180 : decode cX8_blockOf 180 = .ok (.goto (-41), 3) := by decide +kernel
theorem dX8_blockOf_183 : decode cX8_blockOf 183 = .ok (.iload 4, 2) := by decide +kernel
theorem dX8_blockOf_185 : decode cX8_blockOf 185 = .ok (.ireturn, 1) := by decide +kernel
theorem dX8_block_0 : decode cX8_block 0 = .ok (.aload_n 0, 1) := by decide +kernel
theorem dX8_block_1 : decode cX8_block 1 = .ok (.aload_n 0, 1) := by decide +kernel
theorem dX8_block_2 : decode cX8_block 2 = .ok (.iload_n 1, 1) := by decide +kernel
theorem dX8_block_3 : decode cX8_block 3 = .ok (.invokevirtual 221, 3) := by decide +kernel
theorem dX8_block_6 : decode cX8_block 6 = .ok (.ifCond .eq 11, 3) := by decide +kernel
theorem dX8_block_9 : decode cX8_block 9 = .ok (.aload_n 0, 1) := by decide +kernel
theorem dX8_block_10 : decode cX8_block 10 = .ok (.iload_n 2, 1) := by decide +kernel
theorem dX8_block_11 : decode cX8_block 11 = .ok (.invokevirtual 221, 3) := by decide +kernel
theorem dX8_block_14 : decode cX8_block 14 = .ok (.ifCond .ne 7, 3) := by decide +kernel
theorem dX8_block_17 : decode cX8_block 17 = .ok (.iconst 2, 1) := by decide +kernel
theorem dX8_block_18 : decode cX8_block 18 = .ok (.goto 13, 3) := by decide +kernel
theorem dX8_block_21 : decode cX8_block 21 = .ok (.iload_n 1, 1) := by decide +kernel
theorem dX8_block_22 : decode cX8_block 22 = .ok (.iload_n 2, 1) := by decide +kernel
theorem dX8_block_23 : decode cX8_block 23 = .ok (.if_icmp .ne 7, 3) := by decide +kernel
theorem dX8_block_26 : decode cX8_block 26 = .ok (.iconst 4, 1) := by decide +kernel
theorem dX8_block_27 : decode cX8_block 27 = .ok (.goto 4, 3) := by decide +kernel
theorem dX8_block_30 : decode cX8_block 30 = .ok (.iconst 0, 1) := by decide +kernel
theorem dX8_block_31 : decode cX8_block 31 = .ok (.invokevirtual 194, 3) := by decide +kernel
theorem dX8_block_34 : decode cX8_block 34 = .ok (.ifCond .eq 12, 3) := by decide +kernel
theorem dX8_block_37 : decode cX8_block 37 = .ok (.aload_n 0, 1) := by decide +kernel
theorem dX8_block_38 : decode cX8_block 38 = .ok (.iload_n 1, 1) := by decide +kernel
theorem dX8_block_39 : decode cX8_block 39 = .ok (.iload_n 2, 1) := by decide +kernel
theorem dX8_block_40 : decode cX8_block 40 = .ok (.invokevirtual 347, 3) := by decide +kernel
theorem dX8_block_43 : decode cX8_block 43 = .ok (.goto 4, 3) := by decide +kernel
theorem dX8_block_46 : decode cX8_block 46 = .ok (.iconst (-1), 1) := by decide +kernel
theorem dX8_block_47 : decode cX8_block 47 = .ok (.ireturn, 1) := by decide +kernel
theorem dX8_anywhere_0 : decode cX8_anywhere 0 = .ok (.aload_n 0, 1) := by decide +kernel
theorem dX8_anywhere_1 : decode cX8_anywhere 1 = .ok (.aload_n 0, 1) := by decide +kernel
theorem dX8_anywhere_2 : decode cX8_anywhere 2 = .ok (.iconst 0, 1) := by decide +kernel
theorem dX8_anywhere_3 : decode cX8_anywhere 3 = .ok (.invokevirtual 260, 3) := by decide +kernel
theorem dX8_anywhere_6 : decode cX8_anywhere 6 = .ok (.invokevirtual 194, 3) := by decide +kernel
theorem dX8_anywhere_9 : decode cX8_anywhere 9 = .ok (.ifCond .ne 5, 3) := by decide +kernel
theorem dX8_anywhere_12 : decode cX8_anywhere 12 = .ok (.iconst (-1), 1) := by decide +kernel
theorem dX8_anywhere_13 : decode cX8_anywhere 13 = .ok (.ireturn, 1) := by decide +kernel
theorem dX8_anywhere_14 : decode cX8_anywhere 14 = .ok (.aload_n 0, 1) := by decide +kernel
theorem dX8_anywhere_15 : decode cX8_anywhere 15 = .ok (.invokevirtual 179, 3) := by decide +kernel
theorem dX8_anywhere_18 : decode cX8_anywhere 18 = .ok (.iconst 0, 1) := by decide +kernel
theorem dX8_anywhere_19 : decode cX8_anywhere 19 = .ok (.istore_n 1, 1) := by decide +kernel
theorem dX8_anywhere_20 : decode cX8_anywhere 20 = .ok (.iload_n 1, 1) := by decide +kernel
theorem dX8_anywhere_21 : decode cX8_anywhere 21 = .ok (.aload_n 0, 1) := by decide +kernel
theorem dX8_anywhere_22 : decode cX8_anywhere 22 = .ok (.getfield 118, 3) := by decide +kernel
theorem dX8_anywhere_25 : decode cX8_anywhere 25 = .ok (.if_icmp .ge 24, 3) := by decide +kernel
theorem dX8_anywhere_28 : decode cX8_anywhere 28 = .ok (.aload_n 0, 1) := by decide +kernel
theorem dX8_anywhere_29 : decode cX8_anywhere 29 = .ok (.iconst 0, 1) := by decide +kernel
theorem dX8_anywhere_30 : decode cX8_anywhere 30 = .ok (.iload_n 1, 1) := by decide +kernel
theorem dX8_anywhere_31 : decode cX8_anywhere 31 = .ok (.invokevirtual 164, 3) := by decide +kernel
theorem dX8_anywhere_34 : decode cX8_anywhere 34 = .ok (.aload_n 0, 1) := by decide +kernel
theorem dX8_anywhere_35 : decode cX8_anywhere 35 = .ok (.getfield 118, 3) := by decide +kernel
theorem dX8_anywhere_38 : decode cX8_anywhere 38 = .ok (.iload_n 1, 1) := by decide +kernel
theorem dX8_anywhere_39 : decode cX8_anywhere 39 = .ok (.isub, 1) := by decide +kernel
theorem dX8_anywhere_40 : decode cX8_anywhere 40 = .ok (.if_icmp .ne 9, 3) := by decide +kernel
theorem dX8_anywhere_43 : decode cX8_anywhere 43 = .ok (.iinc 1 1, 3) := by decide +kernel
theorem dX8_anywhere_46 : decode cX8_anywhere 46 = .ok (.goto (-26), 3) := by decide +kernel
theorem dX8_anywhere_49 : decode cX8_anywhere 49 = .ok (.iload_n 1, 1) := by decide +kernel
theorem dX8_anywhere_50 : decode cX8_anywhere 50 = .ok (.ireturn, 1) := by decide +kernel
theorem dX8_fixing_0 : decode cX8_fixing 0 = .ok (.aload_n 0, 1) := by decide +kernel
theorem dX8_fixing_1 : decode cX8_fixing 1 = .ok (.aload_n 0, 1) := by decide +kernel
theorem dX8_fixing_2 : decode cX8_fixing 2 = .ok (.iload_n 1, 1) := by decide +kernel
theorem dX8_fixing_3 : decode cX8_fixing 3 = .ok (.i2l, 1) := by decide +kernel
theorem dX8_fixing_4 : decode cX8_fixing 4 = .ok (.lconst 0, 1) := by decide +kernel
theorem dX8_fixing_5 : decode cX8_fixing 5 = .ok (.ldc2_w 124, 3) := by decide +kernel
theorem dX8_fixing_8 : decode cX8_fixing 8 = .ok (.invokestatic 114, 3) := by decide +kernel
theorem dX8_fixing_11 : decode cX8_fixing 11 = .ok (.ifCond .eq 7, 3) := by decide +kernel
theorem dX8_fixing_14 : decode cX8_fixing 14 = .ok (.iconst 0, 1) := by decide +kernel
theorem dX8_fixing_15 : decode cX8_fixing 15 = .ok (.goto 4, 3) := by decide +kernel
theorem dX8_fixing_18 : decode cX8_fixing 18 = .ok (.iconst 1, 1) := by decide +kernel
theorem dX8_fixing_19 : decode cX8_fixing 19 = .ok (.invokevirtual 299, 3) := by decide +kernel
theorem dX8_fixing_22 : decode cX8_fixing 22 = .ok (.invokevirtual 194, 3) := by decide +kernel
theorem dX8_fixing_25 : decode cX8_fixing 25 = .ok (.ifCond .ne 5, 3) := by decide +kernel
theorem dX8_fixing_28 : decode cX8_fixing 28 = .ok (.iconst (-1), 1) := by decide +kernel
theorem dX8_fixing_29 : decode cX8_fixing 29 = .ok (.ireturn, 1) := by decide +kernel
theorem dX8_fixing_30 : decode cX8_fixing 30 = .ok (.aload_n 0, 1) := by decide +kernel
theorem dX8_fixing_31 : decode cX8_fixing 31 = .ok (.invokevirtual 293, 3) := by decide +kernel
theorem dX8_fixing_34 : decode cX8_fixing 34 = .ok (.iconst 0, 1) := by decide +kernel
theorem dX8_fixing_35 : decode cX8_fixing 35 = .ok (.istore_n 2, 1) := by decide +kernel
theorem dX8_fixing_36 : decode cX8_fixing 36 = .ok (.iconst 0, 1) := by decide +kernel
theorem dX8_fixing_37 : decode cX8_fixing 37 = .ok (.istore_n 3, 1) := by decide +kernel
theorem dX8_fixing_38 : decode cX8_fixing 38 = .ok (.iload_n 3, 1) := by decide +kernel
theorem dX8_fixing_39 : decode cX8_fixing 39 = .ok (.aload_n 0, 1) := by decide +kernel
theorem dX8_fixing_40 : decode cX8_fixing 40 = .ok (.getfield 290, 3) := by decide +kernel
theorem dX8_fixing_43 : decode cX8_fixing 43 = .ok (.if_icmp .ge 38, 3) := by decide +kernel
theorem dX8_fixing_46 : decode cX8_fixing 46 = .ok (.aload_n 0, 1) := by decide +kernel
theorem dX8_fixing_47 : decode cX8_fixing 47 = .ok (.iload_n 3, 1) := by decide +kernel
theorem dX8_fixing_48 : decode cX8_fixing 48 = .ok (.aload_n 0, 1) := by decide +kernel
theorem dX8_fixing_49 : decode cX8_fixing 49 = .ok (.getfield 16, 3) := by decide +kernel
theorem dX8_fixing_52 : decode cX8_fixing 52 = .ok (.invokevirtual 296, 3) := by decide +kernel
theorem dX8_fixing_55 : decode cX8_fixing 55 = .ok (.iload_n 2, 1) := by decide +kernel
theorem dX8_fixing_56 : decode cX8_fixing 56 = .ok (.aload_n 0, 1) := by decide +kernel
theorem dX8_fixing_57 : decode cX8_fixing 57 = .ok (.aload_n 0, 1) := by decide +kernel
theorem dX8_fixing_58 : decode cX8_fixing 58 = .ok (.getfield 16, 3) := by decide +kernel
theorem dX8_fixing_61 : decode cX8_fixing 61 = .ok (.invokevirtual 251, 3) := by decide +kernel
theorem dX8_fixing_64 : decode cX8_fixing 64 = .ok (.iload_n 1, 1) := by decide +kernel
theorem dX8_fixing_65 : decode cX8_fixing 65 = .ok (.if_icmp .ne 7, 3) := by decide +kernel
theorem dX8_fixing_68 : decode cX8_fixing 68 = .ok (.iconst 1, 1) := by decide +kernel
theorem dX8_fixing_69 : decode cX8_fixing 69 = .ok (.goto 4, 3) := by decide +kernel
theorem dX8_fixing_72 : decode cX8_fixing 72 = .ok (.iconst 0, 1) := by decide +kernel
theorem dX8_fixing_73 : decode cX8_fixing 73 = .ok (.iadd, 1) := by decide +kernel
theorem dX8_fixing_74 : decode cX8_fixing 74 = .ok (.istore_n 2, 1) := by decide +kernel
theorem dX8_fixing_75 : decode cX8_fixing 75 = .ok (.iinc 3 1, 3) := by decide +kernel
theorem dX8_fixing_78 : decode cX8_fixing 78 = .ok (.goto (-40), 3) := by decide +kernel
theorem dX8_fixing_81 : decode cX8_fixing 81 = .ok (.iload_n 2, 1) := by decide +kernel
theorem dX8_fixing_82 : decode cX8_fixing 82 = .ok (.ireturn, 1) := by decide +kernel
theorem dX8_colours_0 : decode cX8_colours 0 = .ok (.aload_n 0, 1) := by decide +kernel
theorem dX8_colours_1 : decode cX8_colours 1 = .ok (.aload_n 0, 1) := by decide +kernel
theorem dX8_colours_2 : decode cX8_colours 2 = .ok (.iload_n 1, 1) := by decide +kernel
theorem dX8_colours_3 : decode cX8_colours 3 = .ok (.i2l, 1) := by decide +kernel
theorem dX8_colours_4 : decode cX8_colours 4 = .ok (.lconst 1, 1) := by decide +kernel
theorem dX8_colours_5 : decode cX8_colours 5 = .ok (.ldc2_w 380, 3) := by decide +kernel
theorem dX8_colours_8 : decode cX8_colours 8 = .ok (.invokestatic 114, 3) := by decide +kernel
theorem dX8_colours_11 : decode cX8_colours 11 = .ok (.ifCond .eq 7, 3) := by decide +kernel
theorem dX8_colours_14 : decode cX8_colours 14 = .ok (.iconst 0, 1) := by decide +kernel
theorem dX8_colours_15 : decode cX8_colours 15 = .ok (.goto 4, 3) := by decide +kernel
theorem dX8_colours_18 : decode cX8_colours 18 = .ok (.iconst 1, 1) := by decide +kernel
theorem dX8_colours_19 : decode cX8_colours 19 = .ok (.invokevirtual 299, 3) := by decide +kernel
theorem dX8_colours_22 : decode cX8_colours 22 = .ok (.invokevirtual 194, 3) := by decide +kernel
theorem dX8_colours_25 : decode cX8_colours 25 = .ok (.ifCond .ne 7, 3) := by decide +kernel
theorem dX8_colours_28 : decode cX8_colours 28 = .ok (.ldc2_w 208, 3) := by decide +kernel
theorem dX8_colours_31 : decode cX8_colours 31 = .ok (.lreturn, 1) := by decide +kernel
theorem dX8_colours_32 : decode cX8_colours 32 = .ok (.aload_n 0, 1) := by decide +kernel
theorem dX8_colours_33 : decode cX8_colours 33 = .ok (.invokevirtual 293, 3) := by decide +kernel
theorem dX8_colours_36 : decode cX8_colours 36 = .ok (.lconst 0, 1) := by decide +kernel
theorem dX8_colours_37 : decode cX8_colours 37 = .ok (.lstore_n 2, 1) := by decide +kernel
theorem dX8_colours_38 : decode cX8_colours 38 = .ok (.iconst 0, 1) := by decide +kernel
theorem dX8_colours_39 : decode cX8_colours 39 = .ok (.istore 4, 2) := by decide +kernel
theorem dX8_colours_41 : decode cX8_colours 41 = .ok (.iload 4, 2) := by decide +kernel
theorem dX8_colours_43 : decode cX8_colours 43 = .ok (.aload_n 0, 1) := by decide +kernel
theorem dX8_colours_44 : decode cX8_colours 44 = .ok (.getfield 290, 3) := by decide +kernel
theorem dX8_colours_47 : decode cX8_colours 47 = .ok (.if_icmp .ge 55, 3) := by decide +kernel
theorem dX8_colours_50 : decode cX8_colours 50 = .ok (.aload_n 0, 1) := by decide +kernel
theorem dX8_colours_51 : decode cX8_colours 51 = .ok (.iload 4, 2) := by decide +kernel
theorem dX8_colours_53 : decode cX8_colours 53 = .ok (.aload_n 0, 1) := by decide +kernel
theorem dX8_colours_54 : decode cX8_colours 54 = .ok (.getfield 16, 3) := by decide +kernel
theorem dX8_colours_57 : decode cX8_colours 57 = .ok (.invokevirtual 296, 3) := by decide +kernel
theorem dX8_colours_60 : decode cX8_colours 60 = .ok (.lconst 1, 1) := by decide +kernel
theorem dX8_colours_61 : decode cX8_colours 61 = .ok (.lstore 5, 2) := by decide +kernel
theorem dX8_colours_63 : decode cX8_colours 63 = .ok (.aload_n 0, 1) := by decide +kernel
theorem dX8_colours_64 : decode cX8_colours 64 = .ok (.aload_n 0, 1) := by decide +kernel
theorem dX8_colours_65 : decode cX8_colours 65 = .ok (.getfield 16, 3) := by decide +kernel
theorem dX8_colours_68 : decode cX8_colours 68 = .ok (.invokevirtual 243, 3) := by decide +kernel
theorem dX8_colours_71 : decode cX8_colours 71 = .ok (.istore 7, 2) := by decide +kernel
theorem dX8_colours_73 : decode cX8_colours 73 = .ok (.iload 7, 2) := by decide +kernel
theorem dX8_colours_75 : decode cX8_colours 75 = .ok (.ifCond .le 16, 3) := by decide +kernel
theorem dX8_colours_78 : decode cX8_colours 78 = .ok (.lload 5, 2) := by decide +kernel
theorem dX8_colours_80 : decode cX8_colours 80 = .ok (.iload_n 1, 1) := by decide +kernel
theorem dX8_colours_81 : decode cX8_colours 81 = .ok (.i2l, 1) := by decide +kernel
theorem dX8_colours_82 : decode cX8_colours 82 = .ok (.lmul, 1) := by decide +kernel
theorem dX8_colours_83 : decode cX8_colours 83 = .ok (.lstore 5, 2) := by decide +kernel
theorem dX8_colours_85 : decode cX8_colours 85 = .ok (.iinc 7 (-1), 3) := by decide +kernel
theorem dX8_colours_88 : decode cX8_colours 88 = .ok (.goto (-15), 3) := by decide +kernel
theorem dX8_colours_91 : decode cX8_colours 91 = .ok (.lload_n 2, 1) := by decide +kernel
theorem dX8_colours_92 : decode cX8_colours 92 = .ok (.lload 5, 2) := by decide +kernel
theorem dX8_colours_94 : decode cX8_colours 94 = .ok (.ladd, 1) := by decide +kernel
theorem dX8_colours_95 : decode cX8_colours 95 = .ok (.lstore_n 2, 1) := by decide +kernel
theorem dX8_colours_96 : decode cX8_colours 96 = .ok (.iinc 4 1, 3) := by decide +kernel
theorem dX8_colours_99 : decode cX8_colours 99 = .ok (.goto (-58), 3) := by decide +kernel
theorem dX8_colours_102 : decode cX8_colours 102 = .ok (.lload_n 2, 1) := by decide +kernel
theorem dX8_colours_103 : decode cX8_colours 103 = .ok (.aload_n 0, 1) := by decide +kernel
theorem dX8_colours_104 : decode cX8_colours 104 = .ok (.getfield 290, 3) := by decide +kernel
theorem dX8_colours_107 : decode cX8_colours 107 = .ok (.i2l, 1) := by decide +kernel
theorem dX8_colours_108 : decode cX8_colours 108 = .ok (.ldiv, 1) := by decide +kernel
theorem dX8_colours_109 : decode cX8_colours 109 = .ok (.lreturn, 1) := by decide +kernel
theorem dX8_typeOf_0 : decode cX8_typeOf 0 = .ok (.lconst 0, 1) := by decide +kernel
theorem dX8_typeOf_1 : decode cX8_typeOf 1 = .ok (.lstore_n 2, 1) := by decide +kernel
theorem dX8_typeOf_2 : decode cX8_typeOf 2 = .ok (.iconst 0, 1) := by decide +kernel
theorem dX8_typeOf_3 : decode cX8_typeOf 3 = .ok (.istore 4, 2) := by decide +kernel
theorem dX8_typeOf_5 : decode cX8_typeOf 5 = .ok (.iload 4, 2) := by decide +kernel
theorem dX8_typeOf_7 : decode cX8_typeOf 7 = .ok (.aload_n 0, 1) := by decide +kernel
theorem dX8_typeOf_8 : decode cX8_typeOf 8 = .ok (.getfield 118, 3) := by decide +kernel
theorem dX8_typeOf_11 : decode cX8_typeOf 11 = .ok (.if_icmp .ge 58, 3) := by decide +kernel
theorem dX8_typeOf_14 : decode cX8_typeOf 14 = .ok (.lconst 1, 1) := by decide +kernel
theorem dX8_typeOf_15 : decode cX8_typeOf 15 = .ok (.lstore 5, 2) := by decide +kernel
theorem dX8_typeOf_17 : decode cX8_typeOf 17 = .ok (.aload_n 1, 1) := by decide +kernel
theorem dX8_typeOf_18 : decode cX8_typeOf 18 = .ok (.iload 4, 2) := by decide +kernel
theorem dX8_typeOf_20 : decode cX8_typeOf 20 = .ok (.invokestatic 236, 3) := by decide +kernel
theorem dX8_typeOf_23 : decode cX8_typeOf 23 = .ok (.istore 7, 2) := by decide +kernel
theorem dX8_typeOf_25 : decode cX8_typeOf 25 = .ok (.iload 7, 2) := by decide +kernel
theorem dX8_typeOf_27 : decode cX8_typeOf 27 = .ok (.iconst 1, 1) := by decide +kernel
theorem dX8_typeOf_28 : decode cX8_typeOf 28 = .ok (.if_icmp .le 17, 3) := by decide +kernel
theorem dX8_typeOf_31 : decode cX8_typeOf 31 = .ok (.lload 5, 2) := by decide +kernel
theorem dX8_typeOf_33 : decode cX8_typeOf 33 = .ok (.ldc2_w 382, 3) := by decide +kernel
theorem dX8_typeOf_36 : decode cX8_typeOf 36 = .ok (.lmul, 1) := by decide +kernel
theorem dX8_typeOf_37 : decode cX8_typeOf 37 = .ok (.lstore 5, 2) := by decide +kernel
theorem dX8_typeOf_39 : decode cX8_typeOf 39 = .ok (.iinc 7 (-1), 3) := by decide +kernel
theorem dX8_typeOf_42 : decode cX8_typeOf 42 = .ok (.goto (-17), 3) := by decide +kernel
theorem dX8_typeOf_45 : decode cX8_typeOf 45 = .ok (.lload_n 2, 1) := by decide +kernel
theorem dX8_typeOf_46 : decode cX8_typeOf 46 = .ok (.aload_n 1, 1) := by decide +kernel
theorem dX8_typeOf_47 : decode cX8_typeOf 47 = .ok (.iload 4, 2) := by decide +kernel
theorem dX8_typeOf_49 : decode cX8_typeOf 49 = .ok (.invokestatic 236, 3) := by decide +kernel
theorem dX8_typeOf_52 : decode cX8_typeOf 52 = .ok (.ifCond .le 8, 3) := by decide +kernel
theorem dX8_typeOf_55 : decode cX8_typeOf 55 = .ok (.lload 5, 2) := by decide +kernel
theorem dX8_typeOf_57 : decode cX8_typeOf 57 = .ok (.goto 4, 3) := by decide +kernel
theorem dX8_typeOf_60 : decode cX8_typeOf 60 = .ok (.lconst 0, 1) := by decide +kernel
theorem dX8_typeOf_61 : decode cX8_typeOf 61 = .ok (.ladd, 1) := by decide +kernel
theorem dX8_typeOf_62 : decode cX8_typeOf 62 = .ok (.lstore_n 2, 1) := by decide +kernel
theorem dX8_typeOf_63 : decode cX8_typeOf 63 = .ok (.iinc 4 1, 3) := by decide +kernel
theorem dX8_typeOf_66 : decode cX8_typeOf 66 = .ok (.goto (-61), 3) := by decide +kernel
theorem dX8_typeOf_69 : decode cX8_typeOf 69 = .ok (.lload_n 2, 1) := by decide +kernel
theorem dX8_typeOf_70 : decode cX8_typeOf 70 = .ok (.lreturn, 1) := by decide +kernel
theorem dX8_typed_0 : decode cX8_typed 0 = .ok (.aload_n 0, 1) := by decide +kernel
theorem dX8_typed_1 : decode cX8_typed 1 = .ok (.aload_n 0, 1) := by decide +kernel
theorem dX8_typed_2 : decode cX8_typed 2 = .ok (.aload_n 0, 1) := by decide +kernel
theorem dX8_typed_3 : decode cX8_typed 3 = .ok (.lload_n 1, 1) := by decide +kernel
theorem dX8_typed_4 : decode cX8_typed 4 = .ok (.aload_n 0, 1) := by decide +kernel
theorem dX8_typed_5 : decode cX8_typed 5 = .ok (.getfield 19, 3) := by decide +kernel
theorem dX8_typed_8 : decode cX8_typed 8 = .ok (.invokevirtual 217, 3) := by decide +kernel
theorem dX8_typed_11 : decode cX8_typed 11 = .ok (.ifCond .eq 7, 3) := by decide +kernel
theorem dX8_typed_14 : decode cX8_typed 14 = .ok (.iconst 0, 1) := by decide +kernel
theorem dX8_typed_15 : decode cX8_typed 15 = .ok (.goto 4, 3) := by decide +kernel
theorem dX8_typed_18 : decode cX8_typed 18 = .ok (.iconst 1, 1) := by decide +kernel
theorem dX8_typed_19 : decode cX8_typed 19 = .ok (.invokevirtual 299, 3) := by decide +kernel
theorem dX8_typed_22 : decode cX8_typed 22 = .ok (.invokevirtual 194, 3) := by decide +kernel
theorem dX8_typed_25 : decode cX8_typed 25 = .ok (.ifCond .ne 5, 3) := by decide +kernel
theorem dX8_typed_28 : decode cX8_typed 28 = .ok (.iconst (-1), 1) := by decide +kernel
theorem dX8_typed_29 : decode cX8_typed 29 = .ok (.ireturn, 1) := by decide +kernel
theorem dX8_typed_30 : decode cX8_typed 30 = .ok (.aload_n 0, 1) := by decide +kernel
theorem dX8_typed_31 : decode cX8_typed 31 = .ok (.invokevirtual 293, 3) := by decide +kernel
theorem dX8_typed_34 : decode cX8_typed 34 = .ok (.iconst 0, 1) := by decide +kernel
theorem dX8_typed_35 : decode cX8_typed 35 = .ok (.istore_n 3, 1) := by decide +kernel
theorem dX8_typed_36 : decode cX8_typed 36 = .ok (.iconst 0, 1) := by decide +kernel
theorem dX8_typed_37 : decode cX8_typed 37 = .ok (.istore 4, 2) := by decide +kernel
theorem dX8_typed_39 : decode cX8_typed 39 = .ok (.iload 4, 2) := by decide +kernel
theorem dX8_typed_41 : decode cX8_typed 41 = .ok (.aload_n 0, 1) := by decide +kernel
theorem dX8_typed_42 : decode cX8_typed 42 = .ok (.getfield 290, 3) := by decide +kernel
theorem dX8_typed_45 : decode cX8_typed 45 = .ok (.if_icmp .ge 47, 3) := by decide +kernel
theorem dX8_typed_48 : decode cX8_typed 48 = .ok (.aload_n 0, 1) := by decide +kernel
theorem dX8_typed_49 : decode cX8_typed 49 = .ok (.iload 4, 2) := by decide +kernel
theorem dX8_typed_51 : decode cX8_typed 51 = .ok (.aload_n 0, 1) := by decide +kernel
theorem dX8_typed_52 : decode cX8_typed 52 = .ok (.getfield 16, 3) := by decide +kernel
theorem dX8_typed_55 : decode cX8_typed 55 = .ok (.invokevirtual 296, 3) := by decide +kernel
theorem dX8_typed_58 : decode cX8_typed 58 = .ok (.iload_n 3, 1) := by decide +kernel
theorem dX8_typed_59 : decode cX8_typed 59 = .ok (.aload_n 0, 1) := by decide +kernel
theorem dX8_typed_60 : decode cX8_typed 60 = .ok (.aload_n 0, 1) := by decide +kernel
theorem dX8_typed_61 : decode cX8_typed 61 = .ok (.getfield 16, 3) := by decide +kernel
theorem dX8_typed_64 : decode cX8_typed 64 = .ok (.invokevirtual 384, 3) := by decide +kernel
theorem dX8_typed_67 : decode cX8_typed 67 = .ok (.aload_n 0, 1) := by decide +kernel
theorem dX8_typed_68 : decode cX8_typed 68 = .ok (.aload_n 0, 1) := by decide +kernel
theorem dX8_typed_69 : decode cX8_typed 69 = .ok (.getfield 19, 3) := by decide +kernel
theorem dX8_typed_72 : decode cX8_typed 72 = .ok (.invokevirtual 384, 3) := by decide +kernel
theorem dX8_typed_75 : decode cX8_typed 75 = .ok (.lcmp, 1) := by decide +kernel
theorem dX8_typed_76 : decode cX8_typed 76 = .ok (.ifCond .ne 7, 3) := by decide +kernel
theorem dX8_typed_79 : decode cX8_typed 79 = .ok (.iconst 1, 1) := by decide +kernel
theorem dX8_typed_80 : decode cX8_typed 80 = .ok (.goto 4, 3) := by decide +kernel
theorem dX8_typed_83 : decode cX8_typed 83 = .ok (.iconst 0, 1) := by decide +kernel
theorem dX8_typed_84 : decode cX8_typed 84 = .ok (.iadd, 1) := by decide +kernel
theorem dX8_typed_85 : decode cX8_typed 85 = .ok (.istore_n 3, 1) := by decide +kernel
theorem dX8_typed_86 : decode cX8_typed 86 = .ok (.iinc 4 1, 3) := by decide +kernel
theorem dX8_typed_89 : decode cX8_typed 89 = .ok (.goto (-50), 3) := by decide +kernel
theorem dX8_typed_92 : decode cX8_typed 92 = .ok (.iload_n 3, 1) := by decide +kernel
theorem dX8_typed_93 : decode cX8_typed 93 = .ok (.ireturn, 1) := by decide +kernel
theorem dX8_root_0 : decode cX8_root 0 = .ok (.aload_n 0, 1) := by decide +kernel
theorem dX8_root_1 : decode cX8_root 1 = .ok (.aload_n 0, 1) := by decide +kernel
theorem dX8_root_2 : decode cX8_root 2 = .ok (.aload_n 0, 1) := by decide +kernel
theorem dX8_root_3 : decode cX8_root 3 = .ok (.lload_n 1, 1) := by decide +kernel
theorem dX8_root_4 : decode cX8_root 4 = .ok (.aload_n 0, 1) := by decide +kernel
theorem dX8_root_5 : decode cX8_root 5 = .ok (.getfield 19, 3) := by decide +kernel
theorem dX8_root_8 : decode cX8_root 8 = .ok (.invokevirtual 217, 3) := by decide +kernel
theorem dX8_root_11 : decode cX8_root 11 = .ok (.ifCond .eq 19, 3) := by decide +kernel
theorem dX8_root_14 : decode cX8_root 14 = .ok (.iload_n 3, 1) := by decide +kernel
theorem dX8_root_15 : decode cX8_root 15 = .ok (.i2l, 1) := by decide +kernel
theorem dX8_root_16 : decode cX8_root 16 = .ok (.lconst 1, 1) := by decide +kernel
theorem dX8_root_17 : decode cX8_root 17 = .ok (.ldc2_w 230, 3) := by decide +kernel
theorem dX8_root_20 : decode cX8_root 20 = .ok (.invokestatic 114, 3) := by decide +kernel
theorem dX8_root_23 : decode cX8_root 23 = .ok (.ifCond .eq 7, 3) := by decide +kernel
theorem dX8_root_26 : decode cX8_root 26 = .ok (.iconst 0, 1) := by decide +kernel
theorem dX8_root_27 : decode cX8_root 27 = .ok (.goto 4, 3) := by decide +kernel
theorem dX8_root_30 : decode cX8_root 30 = .ok (.iconst 1, 1) := by decide +kernel
theorem dX8_root_31 : decode cX8_root 31 = .ok (.invokevirtual 299, 3) := by decide +kernel
theorem dX8_root_34 : decode cX8_root 34 = .ok (.invokevirtual 194, 3) := by decide +kernel
theorem dX8_root_37 : decode cX8_root 37 = .ok (.ifCond .ne 5, 3) := by decide +kernel
theorem dX8_root_40 : decode cX8_root 40 = .ok (.iconst (-1), 1) := by decide +kernel
theorem dX8_root_41 : decode cX8_root 41 = .ok (.ireturn, 1) := by decide +kernel
theorem dX8_root_42 : decode cX8_root 42 = .ok (.aload_n 0, 1) := by decide +kernel
theorem dX8_root_43 : decode cX8_root 43 = .ok (.invokevirtual 293, 3) := by decide +kernel
theorem dX8_root_46 : decode cX8_root 46 = .ok (.iconst 0, 1) := by decide +kernel
theorem dX8_root_47 : decode cX8_root 47 = .ok (.istore 4, 2) := by decide +kernel
theorem dX8_root_49 : decode cX8_root 49 = .ok (.iload 4, 2) := by decide +kernel
theorem dX8_root_51 : decode cX8_root 51 = .ok (.aload_n 0, 1) := by decide +kernel
theorem dX8_root_52 : decode cX8_root 52 = .ok (.getfield 290, 3) := by decide +kernel
theorem dX8_root_55 : decode cX8_root 55 = .ok (.if_icmp .ge 58, 3) := by decide +kernel
theorem dX8_root_58 : decode cX8_root 58 = .ok (.aload_n 0, 1) := by decide +kernel
theorem dX8_root_59 : decode cX8_root 59 = .ok (.iload 4, 2) := by decide +kernel
theorem dX8_root_61 : decode cX8_root 61 = .ok (.aload_n 0, 1) := by decide +kernel
theorem dX8_root_62 : decode cX8_root 62 = .ok (.getfield 16, 3) := by decide +kernel
theorem dX8_root_65 : decode cX8_root 65 = .ok (.invokevirtual 296, 3) := by decide +kernel
theorem dX8_root_68 : decode cX8_root 68 = .ok (.aload_n 0, 1) := by decide +kernel
theorem dX8_root_69 : decode cX8_root 69 = .ok (.aload_n 0, 1) := by decide +kernel
theorem dX8_root_70 : decode cX8_root 70 = .ok (.getfield 16, 3) := by decide +kernel
theorem dX8_root_73 : decode cX8_root 73 = .ok (.iload_n 3, 1) := by decide +kernel
theorem dX8_root_74 : decode cX8_root 74 = .ok (.aload_n 0, 1) := by decide +kernel
theorem dX8_root_75 : decode cX8_root 75 = .ok (.aload_n 0, 1) := by decide +kernel
theorem dX8_root_76 : decode cX8_root 76 = .ok (.getfield 16, 3) := by decide +kernel
theorem dX8_root_79 : decode cX8_root 79 = .ok (.invokevirtual 249, 3) := by decide +kernel
theorem dX8_root_82 : decode cX8_root 82 = .ok (.irem, 1) := by decide +kernel
theorem dX8_root_83 : decode cX8_root 83 = .ok (.aload_n 0, 1) := by decide +kernel
theorem dX8_root_84 : decode cX8_root 84 = .ok (.getfield 22, 3) := by decide +kernel
theorem dX8_root_87 : decode cX8_root 87 = .ok (.invokevirtual 232, 3) := by decide +kernel
theorem dX8_root_90 : decode cX8_root 90 = .ok (.aload_n 0, 1) := by decide +kernel
theorem dX8_root_91 : decode cX8_root 91 = .ok (.getfield 22, 3) := by decide +kernel
theorem dX8_root_94 : decode cX8_root 94 = .ok (.aload_n 0, 1) := by decide +kernel
theorem dX8_root_95 : decode cX8_root 95 = .ok (.getfield 19, 3) := by decide +kernel
theorem dX8_root_98 : decode cX8_root 98 = .ok (.invokestatic 311, 3) := by decide +kernel
theorem dX8_root_101 : decode cX8_root 101 = .ok (.ifCond .eq 6, 3) := by decide +kernel
theorem dX8_root_104 : decode cX8_root 104 = .ok (.iload 4, 2) := by decide +kernel
theorem dX8_root_106 : decode cX8_root 106 = .ok (.ireturn, 1) := by decide +kernel
theorem dX8_root_107 : decode cX8_root 107 = .ok (.iinc 4 1, 3) := by decide +kernel
theorem dX8_root_110 : decode cX8_root 110 = .ok (.goto (-61), 3) := by decide +kernel
theorem dX8_root_113 : decode cX8_root 113 = .ok (.aload_n 0, 1) := by decide +kernel
theorem dX8_root_114 : decode cX8_root 114 = .ok (.iconst 5, 1) := by decide +kernel
theorem dX8_root_115 : decode cX8_root 115 = .ok (.invokevirtual 266, 3) := by decide +kernel
theorem dX8_root_118 : decode cX8_root 118 = .ok (.ireturn, 1) := by decide +kernel
theorem dX8_slightest_0 : decode cX8_slightest 0 = .ok (.aload_n 0, 1) := by decide +kernel
theorem dX8_slightest_1 : decode cX8_slightest 1 = .ok (.aload_n 0, 1) := by decide +kernel
theorem dX8_slightest_2 : decode cX8_slightest 2 = .ok (.iconst 0, 1) := by decide +kernel
theorem dX8_slightest_3 : decode cX8_slightest 3 = .ok (.invokevirtual 299, 3) := by decide +kernel
theorem dX8_slightest_6 : decode cX8_slightest 6 = .ok (.invokevirtual 194, 3) := by decide +kernel
theorem dX8_slightest_9 : decode cX8_slightest 9 = .ok (.ifCond .ne 5, 3) := by decide +kernel
theorem dX8_slightest_12 : decode cX8_slightest 12 = .ok (.iconst (-1), 1) := by decide +kernel
theorem dX8_slightest_13 : decode cX8_slightest 13 = .ok (.ireturn, 1) := by decide +kernel
theorem dX8_slightest_14 : decode cX8_slightest 14 = .ok (.aload_n 0, 1) := by decide +kernel
theorem dX8_slightest_15 : decode cX8_slightest 15 = .ok (.invokevirtual 293, 3) := by decide +kernel
theorem dX8_slightest_18 : decode cX8_slightest 18 = .ok (.iconst (-1), 1) := by decide +kernel
theorem dX8_slightest_19 : decode cX8_slightest 19 = .ok (.istore_n 1, 1) := by decide +kernel
theorem dX8_slightest_20 : decode cX8_slightest 20 = .ok (.iconst 1, 1) := by decide +kernel
theorem dX8_slightest_21 : decode cX8_slightest 21 = .ok (.istore_n 2, 1) := by decide +kernel
theorem dX8_slightest_22 : decode cX8_slightest 22 = .ok (.iload_n 2, 1) := by decide +kernel
theorem dX8_slightest_23 : decode cX8_slightest 23 = .ok (.aload_n 0, 1) := by decide +kernel
theorem dX8_slightest_24 : decode cX8_slightest 24 = .ok (.getfield 290, 3) := by decide +kernel
theorem dX8_slightest_27 : decode cX8_slightest 27 = .ok (.if_icmp .ge 48, 3) := by decide +kernel
theorem dX8_slightest_30 : decode cX8_slightest 30 = .ok (.aload_n 0, 1) := by decide +kernel
theorem dX8_slightest_31 : decode cX8_slightest 31 = .ok (.iload_n 2, 1) := by decide +kernel
theorem dX8_slightest_32 : decode cX8_slightest 32 = .ok (.aload_n 0, 1) := by decide +kernel
theorem dX8_slightest_33 : decode cX8_slightest 33 = .ok (.getfield 16, 3) := by decide +kernel
theorem dX8_slightest_36 : decode cX8_slightest 36 = .ok (.invokevirtual 296, 3) := by decide +kernel
theorem dX8_slightest_39 : decode cX8_slightest 39 = .ok (.aload_n 0, 1) := by decide +kernel
theorem dX8_slightest_40 : decode cX8_slightest 40 = .ok (.getfield 118, 3) := by decide +kernel
theorem dX8_slightest_43 : decode cX8_slightest 43 = .ok (.aload_n 0, 1) := by decide +kernel
theorem dX8_slightest_44 : decode cX8_slightest 44 = .ok (.aload_n 0, 1) := by decide +kernel
theorem dX8_slightest_45 : decode cX8_slightest 45 = .ok (.getfield 16, 3) := by decide +kernel
theorem dX8_slightest_48 : decode cX8_slightest 48 = .ok (.invokevirtual 251, 3) := by decide +kernel
theorem dX8_slightest_51 : decode cX8_slightest 51 = .ok (.isub, 1) := by decide +kernel
theorem dX8_slightest_52 : decode cX8_slightest 52 = .ok (.istore_n 3, 1) := by decide +kernel
theorem dX8_slightest_53 : decode cX8_slightest 53 = .ok (.iload_n 1, 1) := by decide +kernel
theorem dX8_slightest_54 : decode cX8_slightest 54 = .ok (.iconst (-1), 1) := by decide +kernel
theorem dX8_slightest_55 : decode cX8_slightest 55 = .ok (.if_icmp .eq 8, 3) := by decide +kernel
theorem dX8_slightest_58 : decode cX8_slightest 58 = .ok (.iload_n 3, 1) := by decide +kernel
theorem dX8_slightest_59 : decode cX8_slightest 59 = .ok (.iload_n 1, 1) := by decide +kernel
theorem dX8_slightest_60 : decode cX8_slightest 60 = .ok (.if_icmp .ge 7, 3) := by decide +kernel
theorem dX8_slightest_63 : decode cX8_slightest 63 = .ok (.iload_n 3, 1) := by decide +kernel
theorem dX8_slightest_64 : decode cX8_slightest 64 = .ok (.goto 4, 3) := by decide +kernel
theorem dX8_slightest_67 : decode cX8_slightest 67 = .ok (.iload_n 1, 1) := by decide +kernel
theorem dX8_slightest_68 : decode cX8_slightest 68 = .ok (.istore_n 1, 1) := by decide +kernel
theorem dX8_slightest_69 : decode cX8_slightest 69 = .ok (.iinc 2 1, 3) := by decide +kernel
theorem dX8_slightest_72 : decode cX8_slightest 72 = .ok (.goto (-50), 3) := by decide +kernel
theorem dX8_slightest_75 : decode cX8_slightest 75 = .ok (.aload_n 0, 1) := by decide +kernel
theorem dX8_slightest_76 : decode cX8_slightest 76 = .ok (.iload_n 1, 1) := by decide +kernel
theorem dX8_slightest_77 : decode cX8_slightest 77 = .ok (.invokevirtual 272, 3) := by decide +kernel
theorem dX8_slightest_80 : decode cX8_slightest 80 = .ok (.ireturn, 1) := by decide +kernel
theorem dX8_ofOrder_0 : decode cX8_ofOrder 0 = .ok (.aload_n 0, 1) := by decide +kernel
theorem dX8_ofOrder_1 : decode cX8_ofOrder 1 = .ok (.aload_n 0, 1) := by decide +kernel
theorem dX8_ofOrder_2 : decode cX8_ofOrder 2 = .ok (.iload_n 1, 1) := by decide +kernel
theorem dX8_ofOrder_3 : decode cX8_ofOrder 3 = .ok (.iconst 1, 1) := by decide +kernel
theorem dX8_ofOrder_4 : decode cX8_ofOrder 4 = .ok (.if_icmp .lt 7, 3) := by decide +kernel
theorem dX8_ofOrder_7 : decode cX8_ofOrder 7 = .ok (.iconst 0, 1) := by decide +kernel
theorem dX8_ofOrder_8 : decode cX8_ofOrder 8 = .ok (.goto 4, 3) := by decide +kernel
theorem dX8_ofOrder_11 : decode cX8_ofOrder 11 = .ok (.iconst 1, 1) := by decide +kernel
theorem dX8_ofOrder_12 : decode cX8_ofOrder 12 = .ok (.invokevirtual 299, 3) := by decide +kernel
theorem dX8_ofOrder_15 : decode cX8_ofOrder 15 = .ok (.invokevirtual 194, 3) := by decide +kernel
theorem dX8_ofOrder_18 : decode cX8_ofOrder 18 = .ok (.ifCond .ne 5, 3) := by decide +kernel
theorem dX8_ofOrder_21 : decode cX8_ofOrder 21 = .ok (.iconst (-1), 1) := by decide +kernel
theorem dX8_ofOrder_22 : decode cX8_ofOrder 22 = .ok (.ireturn, 1) := by decide +kernel
theorem dX8_ofOrder_23 : decode cX8_ofOrder 23 = .ok (.aload_n 0, 1) := by decide +kernel
theorem dX8_ofOrder_24 : decode cX8_ofOrder 24 = .ok (.invokevirtual 293, 3) := by decide +kernel
theorem dX8_ofOrder_27 : decode cX8_ofOrder 27 = .ok (.iconst 0, 1) := by decide +kernel
theorem dX8_ofOrder_28 : decode cX8_ofOrder 28 = .ok (.istore_n 2, 1) := by decide +kernel
theorem dX8_ofOrder_29 : decode cX8_ofOrder 29 = .ok (.iconst 0, 1) := by decide +kernel
theorem dX8_ofOrder_30 : decode cX8_ofOrder 30 = .ok (.istore_n 3, 1) := by decide +kernel
theorem dX8_ofOrder_31 : decode cX8_ofOrder 31 = .ok (.iload_n 3, 1) := by decide +kernel
theorem dX8_ofOrder_32 : decode cX8_ofOrder 32 = .ok (.aload_n 0, 1) := by decide +kernel
theorem dX8_ofOrder_33 : decode cX8_ofOrder 33 = .ok (.getfield 290, 3) := by decide +kernel
theorem dX8_ofOrder_36 : decode cX8_ofOrder 36 = .ok (.if_icmp .ge 38, 3) := by decide +kernel
theorem dX8_ofOrder_39 : decode cX8_ofOrder 39 = .ok (.aload_n 0, 1) := by decide +kernel
theorem dX8_ofOrder_40 : decode cX8_ofOrder 40 = .ok (.iload_n 3, 1) := by decide +kernel
theorem dX8_ofOrder_41 : decode cX8_ofOrder 41 = .ok (.aload_n 0, 1) := by decide +kernel
theorem dX8_ofOrder_42 : decode cX8_ofOrder 42 = .ok (.getfield 16, 3) := by decide +kernel
theorem dX8_ofOrder_45 : decode cX8_ofOrder 45 = .ok (.invokevirtual 296, 3) := by decide +kernel
theorem dX8_ofOrder_48 : decode cX8_ofOrder 48 = .ok (.iload_n 2, 1) := by decide +kernel
theorem dX8_ofOrder_49 : decode cX8_ofOrder 49 = .ok (.aload_n 0, 1) := by decide +kernel
theorem dX8_ofOrder_50 : decode cX8_ofOrder 50 = .ok (.aload_n 0, 1) := by decide +kernel
theorem dX8_ofOrder_51 : decode cX8_ofOrder 51 = .ok (.getfield 16, 3) := by decide +kernel
theorem dX8_ofOrder_54 : decode cX8_ofOrder 54 = .ok (.invokevirtual 249, 3) := by decide +kernel
theorem dX8_ofOrder_57 : decode cX8_ofOrder 57 = .ok (.iload_n 1, 1) := by decide +kernel
theorem dX8_ofOrder_58 : decode cX8_ofOrder 58 = .ok (.if_icmp .ne 7, 3) := by decide +kernel
theorem dX8_ofOrder_61 : decode cX8_ofOrder 61 = .ok (.iconst 1, 1) := by decide +kernel
theorem dX8_ofOrder_62 : decode cX8_ofOrder 62 = .ok (.goto 4, 3) := by decide +kernel
theorem dX8_ofOrder_65 : decode cX8_ofOrder 65 = .ok (.iconst 0, 1) := by decide +kernel
theorem dX8_ofOrder_66 : decode cX8_ofOrder 66 = .ok (.iadd, 1) := by decide +kernel
theorem dX8_ofOrder_67 : decode cX8_ofOrder 67 = .ok (.istore_n 2, 1) := by decide +kernel
theorem dX8_ofOrder_68 : decode cX8_ofOrder 68 = .ok (.iinc 3 1, 3) := by decide +kernel
theorem dX8_ofOrder_71 : decode cX8_ofOrder 71 = .ok (.goto (-40), 3) := by decide +kernel
theorem dX8_ofOrder_74 : decode cX8_ofOrder 74 = .ok (.iload_n 2, 1) := by decide +kernel
theorem dX8_ofOrder_75 : decode cX8_ofOrder 75 = .ok (.ifCond .ne 11, 3) := by decide +kernel
theorem dX8_ofOrder_78 : decode cX8_ofOrder 78 = .ok (.aload_n 0, 1) := by decide +kernel
theorem dX8_ofOrder_79 : decode cX8_ofOrder 79 = .ok (.iconst 5, 1) := by decide +kernel
theorem dX8_ofOrder_80 : decode cX8_ofOrder 80 = .ok (.invokevirtual 266, 3) := by decide +kernel
theorem dX8_ofOrder_83 : decode cX8_ofOrder 83 = .ok (.goto 4, 3) := by decide +kernel
theorem dX8_ofOrder_86 : decode cX8_ofOrder 86 = .ok (.iload_n 2, 1) := by decide +kernel
theorem dX8_ofOrder_87 : decode cX8_ofOrder 87 = .ok (.ireturn, 1) := by decide +kernel
theorem dX8_turn_0 : decode cX8_turn 0 = .ok (.aload_n 0, 1) := by decide +kernel
theorem dX8_turn_1 : decode cX8_turn 1 = .ok (.aload_n 0, 1) := by decide +kernel
theorem dX8_turn_2 : decode cX8_turn 2 = .ok (.iload_n 1, 1) := by decide +kernel
theorem dX8_turn_3 : decode cX8_turn 3 = .ok (.invokevirtual 205, 3) := by decide +kernel
theorem dX8_turn_6 : decode cX8_turn 6 = .ok (.ifCond .eq 7, 3) := by decide +kernel
theorem dX8_turn_9 : decode cX8_turn 9 = .ok (.iconst 0, 1) := by decide +kernel
theorem dX8_turn_10 : decode cX8_turn 10 = .ok (.goto 4, 3) := by decide +kernel
theorem dX8_turn_13 : decode cX8_turn 13 = .ok (.iconst 2, 1) := by decide +kernel
theorem dX8_turn_14 : decode cX8_turn 14 = .ok (.invokevirtual 194, 3) := by decide +kernel
theorem dX8_turn_17 : decode cX8_turn 17 = .ok (.ifCond .ne 5, 3) := by decide +kernel
theorem dX8_turn_20 : decode cX8_turn 20 = .ok (.iconst (-1), 1) := by decide +kernel
theorem dX8_turn_21 : decode cX8_turn 21 = .ok (.ireturn, 1) := by decide +kernel
theorem dX8_turn_22 : decode cX8_turn 22 = .ok (.aload_n 0, 1) := by decide +kernel
theorem dX8_turn_23 : decode cX8_turn 23 = .ok (.invokevirtual 387, 3) := by decide +kernel
theorem dX8_turn_26 : decode cX8_turn 26 = .ok (.aload_n 0, 1) := by decide +kernel
theorem dX8_turn_27 : decode cX8_turn 27 = .ok (.aload_n 0, 1) := by decide +kernel
theorem dX8_turn_28 : decode cX8_turn 28 = .ok (.getfield 16, 3) := by decide +kernel
theorem dX8_turn_31 : decode cX8_turn 31 = .ok (.invokevirtual 198, 3) := by decide +kernel
theorem dX8_turn_34 : decode cX8_turn 34 = .ok (.aload_n 0, 1) := by decide +kernel
theorem dX8_turn_35 : decode cX8_turn 35 = .ok (.iload_n 1, 1) := by decide +kernel
theorem dX8_turn_36 : decode cX8_turn 36 = .ok (.aload_n 0, 1) := by decide +kernel
theorem dX8_turn_37 : decode cX8_turn 37 = .ok (.getfield 19, 3) := by decide +kernel
theorem dX8_turn_40 : decode cX8_turn 40 = .ok (.invokevirtual 210, 3) := by decide +kernel
theorem dX8_turn_43 : decode cX8_turn 43 = .ok (.aload_n 0, 1) := by decide +kernel
theorem dX8_turn_44 : decode cX8_turn 44 = .ok (.getfield 16, 3) := by decide +kernel
theorem dX8_turn_47 : decode cX8_turn 47 = .ok (.aload_n 0, 1) := by decide +kernel
theorem dX8_turn_48 : decode cX8_turn 48 = .ok (.getfield 19, 3) := by decide +kernel
theorem dX8_turn_51 : decode cX8_turn 51 = .ok (.aload_n 0, 1) := by decide +kernel
theorem dX8_turn_52 : decode cX8_turn 52 = .ok (.getfield 22, 3) := by decide +kernel
theorem dX8_turn_55 : decode cX8_turn 55 = .ok (.invokestatic 138, 3) := by decide +kernel
theorem dX8_turn_58 : decode cX8_turn 58 = .ok (.aload_n 0, 1) := by decide +kernel
theorem dX8_turn_59 : decode cX8_turn 59 = .ok (.getfield 22, 3) := by decide +kernel
theorem dX8_turn_62 : decode cX8_turn 62 = .ok (.iconst 0, 1) := by decide +kernel
theorem dX8_turn_63 : decode cX8_turn 63 = .ok (.aload_n 0, 1) := by decide +kernel
theorem dX8_turn_64 : decode cX8_turn 64 = .ok (.getfield 7, 3) := by decide +kernel
theorem dX8_turn_67 : decode cX8_turn 67 = .ok (.iconst 1, 1) := by decide +kernel
theorem dX8_turn_68 : decode cX8_turn 68 = .ok (.invokestatic 100, 3) := by decide +kernel
theorem dX8_turn_71 : decode cX8_turn 71 = .ok (.aload_n 0, 1) := by decide +kernel
theorem dX8_turn_72 : decode cX8_turn 72 = .ok (.aload_n 0, 1) := by decide +kernel
theorem dX8_turn_73 : decode cX8_turn 73 = .ok (.getfield 22, 3) := by decide +kernel
theorem dX8_turn_76 : decode cX8_turn 76 = .ok (.invokevirtual 251, 3) := by decide +kernel
theorem dX8_turn_79 : decode cX8_turn 79 = .ok (.ireturn, 1) := by decide +kernel
theorem dX8_place_0 : decode cX8_place 0 = .ok (.aload_n 0, 1) := by decide +kernel
theorem dX8_place_1 : decode cX8_place 1 = .ok (.lload_n 1, 1) := by decide +kernel
theorem dX8_place_2 : decode cX8_place 2 = .ok (.aload_n 0, 1) := by decide +kernel
theorem dX8_place_3 : decode cX8_place 3 = .ok (.getfield 16, 3) := by decide +kernel
theorem dX8_place_6 : decode cX8_place 6 = .ok (.invokevirtual 217, 3) := by decide +kernel
theorem dX8_place_9 : decode cX8_place 9 = .ok (.istore_n 3, 1) := by decide +kernel
theorem dX8_place_10 : decode cX8_place 10 = .ok (.aload_n 0, 1) := by decide +kernel
theorem dX8_place_11 : decode cX8_place 11 = .ok (.aload_n 0, 1) := by decide +kernel
theorem dX8_place_12 : decode cX8_place 12 = .ok (.getfield 19, 3) := by decide +kernel
theorem dX8_place_15 : decode cX8_place 15 = .ok (.invokevirtual 198, 3) := by decide +kernel
theorem dX8_place_18 : decode cX8_place 18 = .ok (.aload_n 0, 1) := by decide +kernel
theorem dX8_place_19 : decode cX8_place 19 = .ok (.iload_n 3, 1) := by decide +kernel
theorem dX8_place_20 : decode cX8_place 20 = .ok (.ifCond .ne 7, 3) := by decide +kernel
theorem dX8_place_23 : decode cX8_place 23 = .ok (.iconst 1, 1) := by decide +kernel
theorem dX8_place_24 : decode cX8_place 24 = .ok (.goto 22, 3) := by decide +kernel
theorem dX8_place_27 : decode cX8_place 27 = .ok (.aload_n 0, 1) := by decide +kernel
theorem dX8_place_28 : decode cX8_place 28 = .ok (.getfield 16, 3) := by decide +kernel
theorem dX8_place_31 : decode cX8_place 31 = .ok (.aload_n 0, 1) := by decide +kernel
theorem dX8_place_32 : decode cX8_place 32 = .ok (.getfield 19, 3) := by decide +kernel
theorem dX8_place_35 : decode cX8_place 35 = .ok (.invokestatic 311, 3) := by decide +kernel
theorem dX8_place_38 : decode cX8_place 38 = .ok (.ifCond .eq 7, 3) := by decide +kernel
theorem dX8_place_41 : decode cX8_place 41 = .ok (.iconst 4, 1) := by decide +kernel
theorem dX8_place_42 : decode cX8_place 42 = .ok (.goto 4, 3) := by decide +kernel
theorem dX8_place_45 : decode cX8_place 45 = .ok (.iconst 0, 1) := by decide +kernel
theorem dX8_place_46 : decode cX8_place 46 = .ok (.invokevirtual 194, 3) := by decide +kernel
theorem dX8_place_49 : decode cX8_place 49 = .ok (.ifCond .ne 5, 3) := by decide +kernel
theorem dX8_place_52 : decode cX8_place 52 = .ok (.iconst (-1), 1) := by decide +kernel
theorem dX8_place_53 : decode cX8_place 53 = .ok (.ireturn, 1) := by decide +kernel
theorem dX8_place_54 : decode cX8_place 54 = .ok (.aload_n 0, 1) := by decide +kernel
theorem dX8_place_55 : decode cX8_place 55 = .ok (.invokevirtual 387, 3) := by decide +kernel
theorem dX8_place_58 : decode cX8_place 58 = .ok (.aload_n 0, 1) := by decide +kernel
theorem dX8_place_59 : decode cX8_place 59 = .ok (.getfield 16, 3) := by decide +kernel
theorem dX8_place_62 : decode cX8_place 62 = .ok (.iconst 0, 1) := by decide +kernel
theorem dX8_place_63 : decode cX8_place 63 = .ok (.aload_n 0, 1) := by decide +kernel
theorem dX8_place_64 : decode cX8_place 64 = .ok (.getfield 7, 3) := by decide +kernel
theorem dX8_place_67 : decode cX8_place 67 = .ok (.iconst 1, 1) := by decide +kernel
theorem dX8_place_68 : decode cX8_place 68 = .ok (.invokestatic 100, 3) := by decide +kernel
theorem dX8_place_71 : decode cX8_place 71 = .ok (.aload_n 0, 1) := by decide +kernel
theorem dX8_place_72 : decode cX8_place 72 = .ok (.aload_n 0, 1) := by decide +kernel
theorem dX8_place_73 : decode cX8_place 73 = .ok (.getfield 16, 3) := by decide +kernel
theorem dX8_place_76 : decode cX8_place 76 = .ok (.invokevirtual 278, 3) := by decide +kernel
theorem dX8_place_79 : decode cX8_place 79 = .ok (.ireturn, 1) := by decide +kernel
theorem dX8_home_0 : decode cX8_home 0 = .ok (.aload_n 0, 1) := by decide +kernel
theorem dX8_home_1 : decode cX8_home 1 = .ok (.aload_n 0, 1) := by decide +kernel
theorem dX8_home_2 : decode cX8_home 2 = .ok (.getfield 16, 3) := by decide +kernel
theorem dX8_home_5 : decode cX8_home 5 = .ok (.invokevirtual 198, 3) := by decide +kernel
theorem dX8_home_8 : decode cX8_home 8 = .ok (.aload_n 0, 1) := by decide +kernel
theorem dX8_home_9 : decode cX8_home 9 = .ok (.aload_n 0, 1) := by decide +kernel
theorem dX8_home_10 : decode cX8_home 10 = .ok (.getfield 118, 3) := by decide +kernel
theorem dX8_home_13 : decode cX8_home 13 = .ok (.ifCond .ne 7, 3) := by decide +kernel
theorem dX8_home_16 : decode cX8_home 16 = .ok (.iconst 5, 1) := by decide +kernel
theorem dX8_home_17 : decode cX8_home 17 = .ok (.goto 18, 3) := by decide +kernel
theorem dX8_home_20 : decode cX8_home 20 = .ok (.aload_n 0, 1) := by decide +kernel
theorem dX8_home_21 : decode cX8_home 21 = .ok (.getfield 16, 3) := by decide +kernel
theorem dX8_home_24 : decode cX8_home 24 = .ok (.invokestatic 201, 3) := by decide +kernel
theorem dX8_home_27 : decode cX8_home 27 = .ok (.ifCond .eq 7, 3) := by decide +kernel
theorem dX8_home_30 : decode cX8_home 30 = .ok (.iconst 4, 1) := by decide +kernel
theorem dX8_home_31 : decode cX8_home 31 = .ok (.goto 4, 3) := by decide +kernel
theorem dX8_home_34 : decode cX8_home 34 = .ok (.iconst 0, 1) := by decide +kernel
theorem dX8_home_35 : decode cX8_home 35 = .ok (.invokevirtual 194, 3) := by decide +kernel
theorem dX8_home_38 : decode cX8_home 38 = .ok (.ifCond .ne 5, 3) := by decide +kernel
theorem dX8_home_41 : decode cX8_home 41 = .ok (.iconst (-1), 1) := by decide +kernel
theorem dX8_home_42 : decode cX8_home 42 = .ok (.ireturn, 1) := by decide +kernel
theorem dX8_home_43 : decode cX8_home 43 = .ok (.aload_n 0, 1) := by decide +kernel
theorem dX8_home_44 : decode cX8_home 44 = .ok (.invokevirtual 387, 3) := by decide +kernel
theorem dX8_home_47 : decode cX8_home 47 = .ok (.aload_n 0, 1) := by decide +kernel
theorem dX8_home_48 : decode cX8_home 48 = .ok (.getfield 19, 3) := by decide +kernel
theorem dX8_home_51 : decode cX8_home 51 = .ok (.invokestatic 96, 3) := by decide +kernel
theorem dX8_home_54 : decode cX8_home 54 = .ok (.aload_n 0, 1) := by decide +kernel
theorem dX8_home_55 : decode cX8_home 55 = .ok (.getfield 19, 3) := by decide +kernel
theorem dX8_home_58 : decode cX8_home 58 = .ok (.iconst 0, 1) := by decide +kernel
theorem dX8_home_59 : decode cX8_home 59 = .ok (.aload_n 0, 1) := by decide +kernel
theorem dX8_home_60 : decode cX8_home 60 = .ok (.getfield 7, 3) := by decide +kernel
theorem dX8_home_63 : decode cX8_home 63 = .ok (.iconst 1, 1) := by decide +kernel
theorem dX8_home_64 : decode cX8_home 64 = .ok (.invokestatic 100, 3) := by decide +kernel
theorem dX8_home_67 : decode cX8_home 67 = .ok (.aload_n 0, 1) := by decide +kernel
theorem dX8_home_68 : decode cX8_home 68 = .ok (.getfield 118, 3) := by decide +kernel
theorem dX8_home_71 : decode cX8_home 71 = .ok (.aload_n 0, 1) := by decide +kernel
theorem dX8_home_72 : decode cX8_home 72 = .ok (.aload_n 0, 1) := by decide +kernel
theorem dX8_home_73 : decode cX8_home 73 = .ok (.getfield 16, 3) := by decide +kernel
theorem dX8_home_76 : decode cX8_home 76 = .ok (.invokevirtual 251, 3) := by decide +kernel
theorem dX8_home_79 : decode cX8_home 79 = .ok (.isub, 1) := by decide +kernel
theorem dX8_home_80 : decode cX8_home 80 = .ok (.ireturn, 1) := by decide +kernel
theorem dX8_add_0 : decode cX8_add 0 = .ok (.aload_n 0, 1) := by decide +kernel
theorem dX8_add_1 : decode cX8_add 1 = .ok (.aload_n 0, 1) := by decide +kernel
theorem dX8_add_2 : decode cX8_add 2 = .ok (.lload_n 1, 1) := by decide +kernel
theorem dX8_add_3 : decode cX8_add 3 = .ok (.aload_n 0, 1) := by decide +kernel
theorem dX8_add_4 : decode cX8_add 4 = .ok (.getfield 16, 3) := by decide +kernel
theorem dX8_add_7 : decode cX8_add 7 = .ok (.invokevirtual 217, 3) := by decide +kernel
theorem dX8_add_10 : decode cX8_add 10 = .ok (.ifCond .ne 7, 3) := by decide +kernel
theorem dX8_add_13 : decode cX8_add 13 = .ok (.iconst 1, 1) := by decide +kernel
theorem dX8_add_14 : decode cX8_add 14 = .ok (.goto 17, 3) := by decide +kernel
theorem dX8_add_17 : decode cX8_add 17 = .ok (.aload_n 0, 1) := by decide +kernel
theorem dX8_add_18 : decode cX8_add 18 = .ok (.invokevirtual 110, 3) := by decide +kernel
theorem dX8_add_21 : decode cX8_add 21 = .ok (.bipush 6, 2) := by decide +kernel
theorem dX8_add_23 : decode cX8_add 23 = .ok (.if_icmp .ne 7, 3) := by decide +kernel
theorem dX8_add_26 : decode cX8_add 26 = .ok (.iconst 3, 1) := by decide +kernel
theorem dX8_add_27 : decode cX8_add 27 = .ok (.goto 4, 3) := by decide +kernel
theorem dX8_add_30 : decode cX8_add 30 = .ok (.iconst 0, 1) := by decide +kernel
theorem dX8_add_31 : decode cX8_add 31 = .ok (.invokevirtual 194, 3) := by decide +kernel
theorem dX8_add_34 : decode cX8_add 34 = .ok (.ifCond .ne 5, 3) := by decide +kernel
theorem dX8_add_37 : decode cX8_add 37 = .ok (.iconst (-1), 1) := by decide +kernel
theorem dX8_add_38 : decode cX8_add 38 = .ok (.ireturn, 1) := by decide +kernel
theorem dX8_add_39 : decode cX8_add 39 = .ok (.aload_n 0, 1) := by decide +kernel
theorem dX8_add_40 : decode cX8_add 40 = .ok (.invokevirtual 387, 3) := by decide +kernel
theorem dX8_add_43 : decode cX8_add 43 = .ok (.aload_n 0, 1) := by decide +kernel
theorem dX8_add_44 : decode cX8_add 44 = .ok (.getfield 16, 3) := by decide +kernel
theorem dX8_add_47 : decode cX8_add 47 = .ok (.iconst 0, 1) := by decide +kernel
theorem dX8_add_48 : decode cX8_add 48 = .ok (.aload_n 0, 1) := by decide +kernel
theorem dX8_add_49 : decode cX8_add 49 = .ok (.getfield 7, 3) := by decide +kernel
theorem dX8_add_52 : decode cX8_add 52 = .ok (.bipush 11, 2) := by decide +kernel
theorem dX8_add_54 : decode cX8_add 54 = .ok (.bipush 10, 2) := by decide +kernel
theorem dX8_add_56 : decode cX8_add 56 = .ok (.aload_n 0, 1) := by decide +kernel
theorem dX8_add_57 : decode cX8_add 57 = .ok (.invokevirtual 110, 3) := by decide +kernel
theorem dX8_add_60 : decode cX8_add 60 = .ok (.imul, 1) := by decide +kernel
theorem dX8_add_61 : decode cX8_add 61 = .ok (.iadd, 1) := by decide +kernel
theorem dX8_add_62 : decode cX8_add 62 = .ok (.invokestatic 100, 3) := by decide +kernel
theorem dX8_add_65 : decode cX8_add 65 = .ok (.aload_n 0, 1) := by decide +kernel
theorem dX8_add_66 : decode cX8_add 66 = .ok (.getfield 7, 3) := by decide +kernel
theorem dX8_add_69 : decode cX8_add 69 = .ok (.iconst 0, 1) := by decide +kernel
theorem dX8_add_70 : decode cX8_add 70 = .ok (.dup2, 1) := by decide +kernel
theorem dX8_add_71 : decode cX8_add 71 = .ok (.iaload, 1) := by decide +kernel
theorem dX8_add_72 : decode cX8_add 72 = .ok (.iconst 1, 1) := by decide +kernel
theorem dX8_add_73 : decode cX8_add 73 = .ok (.iadd, 1) := by decide +kernel
theorem dX8_add_74 : decode cX8_add 74 = .ok (.iastore, 1) := by decide +kernel
theorem dX8_add_75 : decode cX8_add 75 = .ok (.aload_n 0, 1) := by decide +kernel
theorem dX8_add_76 : decode cX8_add 76 = .ok (.iconst 0, 1) := by decide +kernel
theorem dX8_add_77 : decode cX8_add 77 = .ok (.putfield 171, 3) := by decide +kernel
theorem dX8_add_80 : decode cX8_add 80 = .ok (.aload_n 0, 1) := by decide +kernel
theorem dX8_add_81 : decode cX8_add 81 = .ok (.invokevirtual 185, 3) := by decide +kernel
theorem dX8_add_84 : decode cX8_add 84 = .ok (.ireturn, 1) := by decide +kernel
theorem dX8_drop_0 : decode cX8_drop 0 = .ok (.aload_n 0, 1) := by decide +kernel
theorem dX8_drop_1 : decode cX8_drop 1 = .ok (.aload_n 0, 1) := by decide +kernel
theorem dX8_drop_2 : decode cX8_drop 2 = .ok (.iload_n 1, 1) := by decide +kernel
theorem dX8_drop_3 : decode cX8_drop 3 = .ok (.invokevirtual 390, 3) := by decide +kernel
theorem dX8_drop_6 : decode cX8_drop 6 = .ok (.ifCond .eq 7, 3) := by decide +kernel
theorem dX8_drop_9 : decode cX8_drop 9 = .ok (.iconst 0, 1) := by decide +kernel
theorem dX8_drop_10 : decode cX8_drop 10 = .ok (.goto 4, 3) := by decide +kernel
theorem dX8_drop_13 : decode cX8_drop 13 = .ok (.iconst 2, 1) := by decide +kernel
theorem dX8_drop_14 : decode cX8_drop 14 = .ok (.invokevirtual 194, 3) := by decide +kernel
theorem dX8_drop_17 : decode cX8_drop 17 = .ok (.ifCond .ne 5, 3) := by decide +kernel
theorem dX8_drop_20 : decode cX8_drop 20 = .ok (.iconst (-1), 1) := by decide +kernel
theorem dX8_drop_21 : decode cX8_drop 21 = .ok (.ireturn, 1) := by decide +kernel
theorem dX8_drop_22 : decode cX8_drop 22 = .ok (.aload_n 0, 1) := by decide +kernel
theorem dX8_drop_23 : decode cX8_drop 23 = .ok (.invokevirtual 387, 3) := by decide +kernel
theorem dX8_drop_26 : decode cX8_drop 26 = .ok (.bipush 11, 2) := by decide +kernel
theorem dX8_drop_28 : decode cX8_drop 28 = .ok (.bipush 10, 2) := by decide +kernel
theorem dX8_drop_30 : decode cX8_drop 30 = .ok (.iload_n 1, 1) := by decide +kernel
theorem dX8_drop_31 : decode cX8_drop 31 = .ok (.imul, 1) := by decide +kernel
theorem dX8_drop_32 : decode cX8_drop 32 = .ok (.iadd, 1) := by decide +kernel
theorem dX8_drop_33 : decode cX8_drop 33 = .ok (.istore_n 2, 1) := by decide +kernel
theorem dX8_drop_34 : decode cX8_drop 34 = .ok (.iload_n 2, 1) := by decide +kernel
theorem dX8_drop_35 : decode cX8_drop 35 = .ok (.bipush 61, 2) := by decide +kernel
theorem dX8_drop_37 : decode cX8_drop 37 = .ok (.if_icmp .ge 24, 3) := by decide +kernel
theorem dX8_drop_40 : decode cX8_drop 40 = .ok (.aload_n 0, 1) := by decide +kernel
theorem dX8_drop_41 : decode cX8_drop 41 = .ok (.getfield 7, 3) := by decide +kernel
theorem dX8_drop_44 : decode cX8_drop 44 = .ok (.iload_n 2, 1) := by decide +kernel
theorem dX8_drop_45 : decode cX8_drop 45 = .ok (.aload_n 0, 1) := by decide +kernel
theorem dX8_drop_46 : decode cX8_drop 46 = .ok (.getfield 7, 3) := by decide +kernel
theorem dX8_drop_49 : decode cX8_drop 49 = .ok (.iload_n 2, 1) := by decide +kernel
theorem dX8_drop_50 : decode cX8_drop 50 = .ok (.bipush 10, 2) := by decide +kernel
theorem dX8_drop_52 : decode cX8_drop 52 = .ok (.iadd, 1) := by decide +kernel
theorem dX8_drop_53 : decode cX8_drop 53 = .ok (.iaload, 1) := by decide +kernel
theorem dX8_drop_54 : decode cX8_drop 54 = .ok (.iastore, 1) := by decide +kernel
theorem dX8_drop_55 : decode cX8_drop 55 = .ok (.iinc 2 1, 3) := by decide +kernel
theorem dX8_drop_58 : decode cX8_drop 58 = .ok (.goto (-24), 3) := by decide +kernel
theorem dX8_drop_61 : decode cX8_drop 61 = .ok (.aload_n 0, 1) := by decide +kernel
theorem dX8_drop_62 : decode cX8_drop 62 = .ok (.getfield 7, 3) := by decide +kernel
theorem dX8_drop_65 : decode cX8_drop 65 = .ok (.iconst 0, 1) := by decide +kernel
theorem dX8_drop_66 : decode cX8_drop 66 = .ok (.dup2, 1) := by decide +kernel
theorem dX8_drop_67 : decode cX8_drop 67 = .ok (.iaload, 1) := by decide +kernel
theorem dX8_drop_68 : decode cX8_drop 68 = .ok (.iconst 1, 1) := by decide +kernel
theorem dX8_drop_69 : decode cX8_drop 69 = .ok (.isub, 1) := by decide +kernel
theorem dX8_drop_70 : decode cX8_drop 70 = .ok (.iastore, 1) := by decide +kernel
theorem dX8_drop_71 : decode cX8_drop 71 = .ok (.aload_n 0, 1) := by decide +kernel
theorem dX8_drop_72 : decode cX8_drop 72 = .ok (.iconst 0, 1) := by decide +kernel
theorem dX8_drop_73 : decode cX8_drop 73 = .ok (.putfield 171, 3) := by decide +kernel
theorem dX8_drop_76 : decode cX8_drop 76 = .ok (.aload_n 0, 1) := by decide +kernel
theorem dX8_drop_77 : decode cX8_drop 77 = .ok (.invokevirtual 185, 3) := by decide +kernel
theorem dX8_drop_80 : decode cX8_drop 80 = .ok (.ireturn, 1) := by decide +kernel
theorem dX8_undo_0 : decode cX8_undo 0 = .ok (.aload_n 0, 1) := by decide +kernel
theorem dX8_undo_1 : decode cX8_undo 1 = .ok (.aload_n 0, 1) := by decide +kernel
theorem dX8_undo_2 : decode cX8_undo 2 = .ok (.getfield 121, 3) := by decide +kernel
theorem dX8_undo_5 : decode cX8_undo 5 = .ok (.ifCond .ne 7, 3) := by decide +kernel
theorem dX8_undo_8 : decode cX8_undo 8 = .ok (.iconst 5, 1) := by decide +kernel
theorem dX8_undo_9 : decode cX8_undo 9 = .ok (.goto 4, 3) := by decide +kernel
theorem dX8_undo_12 : decode cX8_undo 12 = .ok (.iconst 0, 1) := by decide +kernel
theorem dX8_undo_13 : decode cX8_undo 13 = .ok (.invokevirtual 194, 3) := by decide +kernel
theorem dX8_undo_16 : decode cX8_undo 16 = .ok (.ifCond .ne 5, 3) := by decide +kernel
theorem dX8_undo_19 : decode cX8_undo 19 = .ok (.iconst (-1), 1) := by decide +kernel
theorem dX8_undo_20 : decode cX8_undo 20 = .ok (.ireturn, 1) := by decide +kernel
theorem dX8_undo_21 : decode cX8_undo 21 = .ok (.aload_n 0, 1) := by decide +kernel
theorem dX8_undo_22 : decode cX8_undo 22 = .ok (.dup, 1) := by decide +kernel
theorem dX8_undo_23 : decode cX8_undo 23 = .ok (.getfield 121, 3) := by decide +kernel
theorem dX8_undo_26 : decode cX8_undo 26 = .ok (.iconst 1, 1) := by decide +kernel
theorem dX8_undo_27 : decode cX8_undo 27 = .ok (.isub, 1) := by decide +kernel
theorem dX8_undo_28 : decode cX8_undo 28 = .ok (.putfield 121, 3) := by decide +kernel
theorem dX8_undo_31 : decode cX8_undo 31 = .ok (.iconst 0, 1) := by decide +kernel
theorem dX8_undo_32 : decode cX8_undo 32 = .ok (.istore_n 1, 1) := by decide +kernel
theorem dX8_undo_33 : decode cX8_undo 33 = .ok (.iload_n 1, 1) := by decide +kernel
theorem dX8_undo_34 : decode cX8_undo 34 = .ok (.bipush 71, 2) := by decide +kernel
theorem dX8_undo_36 : decode cX8_undo 36 = .ok (.if_icmp .ge 29, 3) := by decide +kernel
theorem dX8_undo_39 : decode cX8_undo 39 = .ok (.aload_n 0, 1) := by decide +kernel
theorem dX8_undo_40 : decode cX8_undo 40 = .ok (.getfield 7, 3) := by decide +kernel
theorem dX8_undo_43 : decode cX8_undo 43 = .ok (.iload_n 1, 1) := by decide +kernel
theorem dX8_undo_44 : decode cX8_undo 44 = .ok (.aload_n 0, 1) := by decide +kernel
theorem dX8_undo_45 : decode cX8_undo 45 = .ok (.getfield 13, 3) := by decide +kernel
theorem dX8_undo_48 : decode cX8_undo 48 = .ok (.bipush 71, 2) := by decide +kernel
theorem dX8_undo_50 : decode cX8_undo 50 = .ok (.aload_n 0, 1) := by decide +kernel
theorem dX8_undo_51 : decode cX8_undo 51 = .ok (.getfield 121, 3) := by decide +kernel
theorem dX8_undo_54 : decode cX8_undo 54 = .ok (.imul, 1) := by decide +kernel
theorem dX8_undo_55 : decode cX8_undo 55 = .ok (.iload_n 1, 1) := by decide +kernel
theorem dX8_undo_56 : decode cX8_undo 56 = .ok (.iadd, 1) := by decide +kernel
theorem dX8_undo_57 : decode cX8_undo 57 = .ok (.iaload, 1) := by decide +kernel
theorem dX8_undo_58 : decode cX8_undo 58 = .ok (.iastore, 1) := by decide +kernel
theorem dX8_undo_59 : decode cX8_undo 59 = .ok (.iinc 1 1, 3) := by decide +kernel
theorem dX8_undo_62 : decode cX8_undo 62 = .ok (.goto (-29), 3) := by decide +kernel
theorem dX8_undo_65 : decode cX8_undo 65 = .ok (.aload_n 0, 1) := by decide +kernel
theorem dX8_undo_66 : decode cX8_undo 66 = .ok (.iconst 0, 1) := by decide +kernel
theorem dX8_undo_67 : decode cX8_undo 67 = .ok (.putfield 171, 3) := by decide +kernel
theorem dX8_undo_70 : decode cX8_undo 70 = .ok (.aload_n 0, 1) := by decide +kernel
theorem dX8_undo_71 : decode cX8_undo 71 = .ok (.getfield 121, 3) := by decide +kernel
theorem dX8_undo_74 : decode cX8_undo 74 = .ok (.ireturn, 1) := by decide +kernel
theorem dX8_writes_0 : decode cX8_writes 0 = .ok (.aload_n 0, 1) := by decide +kernel
theorem dX8_writes_1 : decode cX8_writes 1 = .ok (.getfield 75, 3) := by decide +kernel
theorem dX8_writes_4 : decode cX8_writes 4 = .ok (.aload_n 0, 1) := by decide +kernel
theorem dX8_writes_5 : decode cX8_writes 5 = .ok (.getfield 393, 3) := by decide +kernel
theorem dX8_writes_8 : decode cX8_writes 8 = .ok (.iload_n 1, 1) := by decide +kernel
theorem dX8_writes_9 : decode cX8_writes 9 = .ok (.i2b, 1) := by decide +kernel
theorem dX8_writes_10 : decode cX8_writes 10 = .ok (.bastore, 1) := by decide +kernel
theorem dX8_writes_11 : decode cX8_writes 11 = .ok (.aload_n 0, 1) := by decide +kernel
theorem dX8_writes_12 : decode cX8_writes 12 = .ok (.dup, 1) := by decide +kernel
theorem dX8_writes_13 : decode cX8_writes 13 = .ok (.getfield 393, 3) := by decide +kernel
theorem dX8_writes_16 : decode cX8_writes 16 = .ok (.iconst 1, 1) := by decide +kernel
theorem dX8_writes_17 : decode cX8_writes 17 = .ok (.iadd, 1) := by decide +kernel
theorem dX8_writes_18 : decode cX8_writes 18 = .ok (.putfield 393, 3) := by decide +kernel
theorem dX8_writes_21 : decode cX8_writes 21 = .ok (.return_, 1) := by decide +kernel
theorem dX8_print_0 : decode cX8_print 0 = .ok (.aload_n 0, 1) := by decide +kernel
theorem dX8_print_1 : decode cX8_print 1 = .ok (.aload_n 0, 1) := by decide +kernel
theorem dX8_print_2 : decode cX8_print 2 = .ok (.lload_n 1, 1) := by decide +kernel
theorem dX8_print_3 : decode cX8_print 3 = .ok (.aload_n 0, 1) := by decide +kernel
theorem dX8_print_4 : decode cX8_print 4 = .ok (.getfield 16, 3) := by decide +kernel
theorem dX8_print_7 : decode cX8_print 7 = .ok (.invokevirtual 217, 3) := by decide +kernel
theorem dX8_print_10 : decode cX8_print 10 = .ok (.ifCond .eq 7, 3) := by decide +kernel
theorem dX8_print_13 : decode cX8_print 13 = .ok (.iconst 0, 1) := by decide +kernel
theorem dX8_print_14 : decode cX8_print 14 = .ok (.goto 4, 3) := by decide +kernel
theorem dX8_print_17 : decode cX8_print 17 = .ok (.iconst 1, 1) := by decide +kernel
theorem dX8_print_18 : decode cX8_print 18 = .ok (.invokevirtual 194, 3) := by decide +kernel
theorem dX8_print_21 : decode cX8_print 21 = .ok (.ifCond .ne 5, 3) := by decide +kernel
theorem dX8_print_24 : decode cX8_print 24 = .ok (.iconst (-1), 1) := by decide +kernel
theorem dX8_print_25 : decode cX8_print 25 = .ok (.ireturn, 1) := by decide +kernel
theorem dX8_print_26 : decode cX8_print 26 = .ok (.aload_n 0, 1) := by decide +kernel
theorem dX8_print_27 : decode cX8_print 27 = .ok (.iconst 0, 1) := by decide +kernel
theorem dX8_print_28 : decode cX8_print 28 = .ok (.putfield 393, 3) := by decide +kernel
theorem dX8_print_31 : decode cX8_print 31 = .ok (.iconst 0, 1) := by decide +kernel
theorem dX8_print_32 : decode cX8_print 32 = .ok (.istore_n 3, 1) := by decide +kernel
theorem dX8_print_33 : decode cX8_print 33 = .ok (.iload_n 3, 1) := by decide +kernel
theorem dX8_print_34 : decode cX8_print 34 = .ok (.aload_n 0, 1) := by decide +kernel
theorem dX8_print_35 : decode cX8_print 35 = .ok (.getfield 118, 3) := by decide +kernel
theorem dX8_print_38 : decode cX8_print 38 = .ok (.if_icmp .ge 85, 3) := by decide +kernel
theorem dX8_print_41 : decode cX8_print 41 = .ok (.aload_n 0, 1) := by decide +kernel
theorem dX8_print_42 : decode cX8_print 42 = .ok (.getfield 16, 3) := by decide +kernel
theorem dX8_print_45 : decode cX8_print 45 = .ok (.iload_n 3, 1) := by decide +kernel
theorem dX8_print_46 : decode cX8_print 46 = .ok (.invokestatic 236, 3) := by decide +kernel
theorem dX8_print_49 : decode cX8_print 49 = .ok (.iconst 2, 1) := by decide +kernel
theorem dX8_print_50 : decode cX8_print 50 = .ok (.if_icmp .ge 6, 3) := by decide +kernel
theorem dX8_print_53 : decode cX8_print 53 = .ok (.goto 64, 3) := by decide +kernel
theorem dX8_print_56 : decode cX8_print 56 = .ok (.aload_n 0, 1) := by decide +kernel
theorem dX8_print_57 : decode cX8_print 57 = .ok (.bipush 40, 2) := by decide +kernel
theorem dX8_print_59 : decode cX8_print 59 = .ok (.invokevirtual 396, 3) := by decide +kernel
theorem dX8_print_62 : decode cX8_print 62 = .ok (.aload_n 0, 1) := by decide +kernel
theorem dX8_print_63 : decode cX8_print 63 = .ok (.bipush 48, 2) := by decide +kernel
theorem dX8_print_65 : decode cX8_print 65 = .ok (.iload_n 3, 1) := by decide +kernel
theorem dX8_print_66 : decode cX8_print 66 = .ok (.iadd, 1) := by decide +kernel
theorem dX8_print_67 : decode cX8_print 67 = .ok (.invokevirtual 396, 3) := by decide +kernel
theorem dX8_print_70 : decode cX8_print 70 = .ok (.aload_n 0, 1) := by decide +kernel
theorem dX8_print_71 : decode cX8_print 71 = .ok (.getfield 16, 3) := by decide +kernel
theorem dX8_print_74 : decode cX8_print 74 = .ok (.iload_n 3, 1) := by decide +kernel
theorem dX8_print_75 : decode cX8_print 75 = .ok (.iaload, 1) := by decide +kernel
theorem dX8_print_76 : decode cX8_print 76 = .ok (.istore 4, 2) := by decide +kernel
theorem dX8_print_78 : decode cX8_print 78 = .ok (.iload 4, 2) := by decide +kernel
theorem dX8_print_80 : decode cX8_print 80 = .ok (.iload_n 3, 1) := by decide +kernel
theorem dX8_print_81 : decode cX8_print 81 = .ok (.if_icmp .eq 30, 3) := by decide +kernel
theorem dX8_print_84 : decode cX8_print 84 = .ok (.aload_n 0, 1) := by decide +kernel
theorem dX8_print_85 : decode cX8_print 85 = .ok (.bipush 32, 2) := by decide +kernel
theorem dX8_print_87 : decode cX8_print 87 = .ok (.invokevirtual 396, 3) := by decide +kernel
theorem dX8_print_90 : decode cX8_print 90 = .ok (.aload_n 0, 1) := by decide +kernel
theorem dX8_print_91 : decode cX8_print 91 = .ok (.bipush 48, 2) := by decide +kernel
theorem dX8_print_93 : decode cX8_print 93 = .ok (.iload 4, 2) := by decide +kernel
theorem dX8_print_95 : decode cX8_print 95 = .ok (.iadd, 1) := by decide +kernel
theorem dX8_print_96 : decode cX8_print 96 = .ok (.invokevirtual 396, 3) := by decide +kernel
theorem dX8_print_99 : decode cX8_print 99 = .ok (.aload_n 0, 1) := by decide +kernel
theorem dX8_print_100 : decode cX8_print 100 = .ok (.getfield 16, 3) := by decide +kernel
theorem dX8_print_103 : decode cX8_print 103 = .ok (.iload 4, 2) := by decide +kernel
theorem dX8_print_105 : decode cX8_print 105 = .ok (.iaload, 1) := by decide +kernel
theorem dX8_print_106 : decode cX8_print 106 = .ok (.istore 4, 2) := by decide +kernel
theorem dX8_print_108 : decode cX8_print 108 = .ok (.goto (-30), 3) := by decide +kernel
theorem dX8_print_111 : decode cX8_print 111 = .ok (.aload_n 0, 1) := by decide +kernel
theorem dX8_print_112 : decode cX8_print 112 = .ok (.bipush 41, 2) := by decide +kernel
theorem dX8_print_114 : decode cX8_print 114 = .ok (.invokevirtual 396, 3) := by decide +kernel
theorem dX8_print_117 : decode cX8_print 117 = .ok (.iinc 3 1, 3) := by decide +kernel
theorem dX8_print_120 : decode cX8_print 120 = .ok (.goto (-87), 3) := by decide +kernel
theorem dX8_print_123 : decode cX8_print 123 = .ok (.aload_n 0, 1) := by decide +kernel
theorem dX8_print_124 : decode cX8_print 124 = .ok (.getfield 393, 3) := by decide +kernel
theorem dX8_print_127 : decode cX8_print 127 = .ok (.ifCond .ne 15, 3) := by decide +kernel
theorem dX8_print_130 : decode cX8_print 130 = .ok (.aload_n 0, 1) := by decide +kernel
theorem dX8_print_131 : decode cX8_print 131 = .ok (.bipush 40, 2) := by decide +kernel
theorem dX8_print_133 : decode cX8_print 133 = .ok (.invokevirtual 396, 3) := by decide +kernel
theorem dX8_print_136 : decode cX8_print 136 = .ok (.aload_n 0, 1) := by decide +kernel
theorem dX8_print_137 : decode cX8_print 137 = .ok (.bipush 41, 2) := by decide +kernel
theorem dX8_print_139 : decode cX8_print 139 = .ok (.invokevirtual 396, 3) := by decide +kernel
theorem dX8_print_142 : decode cX8_print 142 = .ok (.aload_n 0, 1) := by decide +kernel
theorem dX8_print_143 : decode cX8_print 143 = .ok (.getfield 393, 3) := by decide +kernel
theorem dX8_print_146 : decode cX8_print 146 = .ok (.ireturn, 1) := by decide +kernel
theorem dX8_out_0 : decode cX8_out 0 = .ok (.aload_n 0, 1) := by decide +kernel
theorem dX8_out_1 : decode cX8_out 1 = .ok (.iload_n 1, 1) := by decide +kernel
theorem dX8_out_2 : decode cX8_out 2 = .ok (.ifCond .ge 7, 3) := by decide +kernel
theorem dX8_out_5 : decode cX8_out 5 = .ok (.iconst 1, 1) := by decide +kernel
theorem dX8_out_6 : decode cX8_out 6 = .ok (.goto 16, 3) := by decide +kernel
theorem dX8_out_9 : decode cX8_out 9 = .ok (.iload_n 1, 1) := by decide +kernel
theorem dX8_out_10 : decode cX8_out 10 = .ok (.aload_n 0, 1) := by decide +kernel
theorem dX8_out_11 : decode cX8_out 11 = .ok (.getfield 393, 3) := by decide +kernel
theorem dX8_out_14 : decode cX8_out 14 = .ok (.if_icmp .lt 7, 3) := by decide +kernel
theorem dX8_out_17 : decode cX8_out 17 = .ok (.iconst 5, 1) := by decide +kernel
theorem dX8_out_18 : decode cX8_out 18 = .ok (.goto 4, 3) := by decide +kernel
theorem dX8_out_21 : decode cX8_out 21 = .ok (.iconst 0, 1) := by decide +kernel
theorem dX8_out_22 : decode cX8_out 22 = .ok (.invokevirtual 194, 3) := by decide +kernel
theorem dX8_out_25 : decode cX8_out 25 = .ok (.ifCond .eq 12, 3) := by decide +kernel
theorem dX8_out_28 : decode cX8_out 28 = .ok (.aload_n 0, 1) := by decide +kernel
theorem dX8_out_29 : decode cX8_out 29 = .ok (.getfield 75, 3) := by decide +kernel
theorem dX8_out_32 : decode cX8_out 32 = .ok (.iload_n 1, 1) := by decide +kernel
theorem dX8_out_33 : decode cX8_out 33 = .ok (.baload, 1) := by decide +kernel
theorem dX8_out_34 : decode cX8_out 34 = .ok (.goto 4, 3) := by decide +kernel
theorem dX8_out_37 : decode cX8_out 37 = .ok (.iconst (-1), 1) := by decide +kernel
theorem dX8_out_38 : decode cX8_out 38 = .ok (.ireturn, 1) := by decide +kernel
theorem dX8_feeds_0 : decode cX8_feeds 0 = .ok (.bipush 24, 2) := by decide +kernel
theorem dX8_feeds_2 : decode cX8_feeds 2 = .ok (.istore_n 2, 1) := by decide +kernel
theorem dX8_feeds_3 : decode cX8_feeds 3 = .ok (.iload_n 2, 1) := by decide +kernel
theorem dX8_feeds_4 : decode cX8_feeds 4 = .ok (.ifCond .lt 32, 3) := by decide +kernel
theorem dX8_feeds_7 : decode cX8_feeds 7 = .ok (.aload_n 0, 1) := by decide +kernel
theorem dX8_feeds_8 : decode cX8_feeds 8 = .ok (.getfield 79, 3) := by decide +kernel
theorem dX8_feeds_11 : decode cX8_feeds 11 = .ok (.aload_n 0, 1) := by decide +kernel
theorem dX8_feeds_12 : decode cX8_feeds 12 = .ok (.getfield 399, 3) := by decide +kernel
theorem dX8_feeds_15 : decode cX8_feeds 15 = .ok (.iload_n 1, 1) := by decide +kernel
theorem dX8_feeds_16 : decode cX8_feeds 16 = .ok (.iload_n 2, 1) := by decide +kernel
theorem dX8_feeds_17 : decode cX8_feeds 17 = .ok (.ishr, 1) := by decide +kernel
theorem dX8_feeds_18 : decode cX8_feeds 18 = .ok (.i2b, 1) := by decide +kernel
theorem dX8_feeds_19 : decode cX8_feeds 19 = .ok (.bastore, 1) := by decide +kernel
theorem dX8_feeds_20 : decode cX8_feeds 20 = .ok (.aload_n 0, 1) := by decide +kernel
theorem dX8_feeds_21 : decode cX8_feeds 21 = .ok (.dup, 1) := by decide +kernel
theorem dX8_feeds_22 : decode cX8_feeds 22 = .ok (.getfield 399, 3) := by decide +kernel
theorem dX8_feeds_25 : decode cX8_feeds 25 = .ok (.iconst 1, 1) := by decide +kernel
theorem dX8_feeds_26 : decode cX8_feeds 26 = .ok (.iadd, 1) := by decide +kernel
theorem dX8_feeds_27 : decode cX8_feeds 27 = .ok (.putfield 399, 3) := by decide +kernel
theorem dX8_feeds_30 : decode cX8_feeds 30 = .ok (.iinc 2 (-8), 3) := by decide +kernel
theorem dX8_feeds_33 : decode cX8_feeds 33 = .ok (.goto (-30), 3) := by decide +kernel
theorem dX8_feeds_36 : decode cX8_feeds 36 = .ok (.return_, 1) := by decide +kernel
theorem dX8_feed_0 : decode cX8_feed 0 = .ok (.aload_n 0, 1) := by decide +kernel
theorem dX8_feed_1 : decode cX8_feed 1 = .ok (.iconst 0, 1) := by decide +kernel
theorem dX8_feed_2 : decode cX8_feed 2 = .ok (.putfield 104, 3) := by decide +kernel
theorem dX8_feed_5 : decode cX8_feed 5 = .ok (.aload_n 0, 1) := by decide +kernel
theorem dX8_feed_6 : decode cX8_feed 6 = .ok (.getfield 399, 3) := by decide +kernel
theorem dX8_feed_9 : decode cX8_feed 9 = .ok (.bipush 20, 2) := by decide +kernel
theorem dX8_feed_11 : decode cX8_feed 11 = .ok (.iadd, 1) := by decide +kernel
theorem dX8_feed_12 : decode cX8_feed 12 = .ok (.sipush 400, 3) := by decide +kernel
theorem dX8_feed_15 : decode cX8_feed 15 = .ok (.if_icmp .le 5, 3) := by decide +kernel
theorem dX8_feed_18 : decode cX8_feed 18 = .ok (.iconst (-1), 1) := by decide +kernel
theorem dX8_feed_19 : decode cX8_feed 19 = .ok (.ireturn, 1) := by decide +kernel
theorem dX8_feed_20 : decode cX8_feed 20 = .ok (.aload_n 0, 1) := by decide +kernel
theorem dX8_feed_21 : decode cX8_feed 21 = .ok (.iload_n 1, 1) := by decide +kernel
theorem dX8_feed_22 : decode cX8_feed 22 = .ok (.invokevirtual 402, 3) := by decide +kernel
theorem dX8_feed_25 : decode cX8_feed 25 = .ok (.aload_n 0, 1) := by decide +kernel
theorem dX8_feed_26 : decode cX8_feed 26 = .ok (.iload_n 2, 1) := by decide +kernel
theorem dX8_feed_27 : decode cX8_feed 27 = .ok (.invokevirtual 402, 3) := by decide +kernel
theorem dX8_feed_30 : decode cX8_feed 30 = .ok (.aload_n 0, 1) := by decide +kernel
theorem dX8_feed_31 : decode cX8_feed 31 = .ok (.iload_n 3, 1) := by decide +kernel
theorem dX8_feed_32 : decode cX8_feed 32 = .ok (.invokevirtual 402, 3) := by decide +kernel
theorem dX8_feed_35 : decode cX8_feed 35 = .ok (.aload_n 0, 1) := by decide +kernel
theorem dX8_feed_36 : decode cX8_feed 36 = .ok (.iload 4, 2) := by decide +kernel
theorem dX8_feed_38 : decode cX8_feed 38 = .ok (.invokevirtual 402, 3) := by decide +kernel
theorem dX8_feed_41 : decode cX8_feed 41 = .ok (.aload_n 0, 1) := by decide +kernel
theorem dX8_feed_42 : decode cX8_feed 42 = .ok (.iload 5, 2) := by decide +kernel
theorem dX8_feed_44 : decode cX8_feed 44 = .ok (.invokevirtual 402, 3) := by decide +kernel
theorem dX8_feed_47 : decode cX8_feed 47 = .ok (.aload_n 0, 1) := by decide +kernel
theorem dX8_feed_48 : decode cX8_feed 48 = .ok (.getfield 399, 3) := by decide +kernel
theorem dX8_feed_51 : decode cX8_feed 51 = .ok (.ireturn, 1) := by decide +kernel
theorem dX8_isOf_0 : decode cX8_isOf 0 = .ok (.iload_n 1, 1) := by decide +kernel
theorem dX8_isOf_1 : decode cX8_isOf 1 = .ok (.aload_n 0, 1) := by decide +kernel
theorem dX8_isOf_2 : decode cX8_isOf 2 = .ok (.getfield 405, 3) := by decide +kernel
theorem dX8_isOf_5 : decode cX8_isOf 5 = .ok (.if_icmp .ge 24, 3) := by decide +kernel
theorem dX8_isOf_8 : decode cX8_isOf 8 = .ok (.aload_n 0, 1) := by decide +kernel
theorem dX8_isOf_9 : decode cX8_isOf 9 = .ok (.getfield 79, 3) := by decide +kernel
theorem dX8_isOf_12 : decode cX8_isOf 12 = .ok (.iload_n 1, 1) := by decide +kernel
theorem dX8_isOf_13 : decode cX8_isOf 13 = .ok (.baload, 1) := by decide +kernel
theorem dX8_isOf_14 : decode cX8_isOf 14 = .ok (.i2l, 1) := by decide +kernel
theorem dX8_isOf_15 : decode cX8_isOf 15 = .ok (.iload_n 2, 1) := by decide +kernel
theorem dX8_isOf_16 : decode cX8_isOf 16 = .ok (.i2l, 1) := by decide +kernel
theorem dX8_isOf_17 : decode cX8_isOf 17 = .ok (.iload_n 3, 1) := by decide +kernel
theorem dX8_isOf_18 : decode cX8_isOf 18 = .ok (.i2l, 1) := by decide +kernel
theorem dX8_isOf_19 : decode cX8_isOf 19 = .ok (.invokestatic 114, 3) := by decide +kernel
theorem dX8_isOf_22 : decode cX8_isOf 22 = .ok (.ifCond .eq 7, 3) := by decide +kernel
theorem dX8_isOf_25 : decode cX8_isOf 25 = .ok (.iconst 1, 1) := by decide +kernel
theorem dX8_isOf_26 : decode cX8_isOf 26 = .ok (.goto 4, 3) := by decide +kernel
theorem dX8_isOf_29 : decode cX8_isOf 29 = .ok (.iconst 0, 1) := by decide +kernel
theorem dX8_isOf_30 : decode cX8_isOf 30 = .ok (.ireturn, 1) := by decide +kernel
theorem dX8_isSign_0 : decode cX8_isSign 0 = .ok (.aload_n 0, 1) := by decide +kernel
theorem dX8_isSign_1 : decode cX8_isSign 1 = .ok (.invokevirtual 408, 3) := by decide +kernel
theorem dX8_isSign_4 : decode cX8_isSign 4 = .ok (.ifCond .eq 31, 3) := by decide +kernel
theorem dX8_isSign_7 : decode cX8_isSign 7 = .ok (.aload_n 0, 1) := by decide +kernel
theorem dX8_isSign_8 : decode cX8_isSign 8 = .ok (.getfield 411, 3) := by decide +kernel
theorem dX8_isSign_11 : decode cX8_isSign 11 = .ok (.aload_n 0, 1) := by decide +kernel
theorem dX8_isSign_12 : decode cX8_isSign 12 = .ok (.getfield 405, 3) := by decide +kernel
theorem dX8_isSign_15 : decode cX8_isSign 15 = .ok (.if_icmp .ge 20, 3) := by decide +kernel
theorem dX8_isSign_18 : decode cX8_isSign 18 = .ok (.aload_n 0, 1) := by decide +kernel
theorem dX8_isSign_19 : decode cX8_isSign 19 = .ok (.getfield 79, 3) := by decide +kernel
theorem dX8_isSign_22 : decode cX8_isSign 22 = .ok (.aload_n 0, 1) := by decide +kernel
theorem dX8_isSign_23 : decode cX8_isSign 23 = .ok (.getfield 411, 3) := by decide +kernel
theorem dX8_isSign_26 : decode cX8_isSign 26 = .ok (.baload, 1) := by decide +kernel
theorem dX8_isSign_27 : decode cX8_isSign 27 = .ok (.iload_n 1, 1) := by decide +kernel
theorem dX8_isSign_28 : decode cX8_isSign 28 = .ok (.if_icmp .ne 7, 3) := by decide +kernel
theorem dX8_isSign_31 : decode cX8_isSign 31 = .ok (.iconst 1, 1) := by decide +kernel
theorem dX8_isSign_32 : decode cX8_isSign 32 = .ok (.goto 4, 3) := by decide +kernel
theorem dX8_isSign_35 : decode cX8_isSign 35 = .ok (.iconst 0, 1) := by decide +kernel
theorem dX8_isSign_36 : decode cX8_isSign 36 = .ok (.ireturn, 1) := by decide +kernel
theorem dX8_reads_0 : decode cX8_reads 0 = .ok (.aload_n 0, 1) := by decide +kernel
theorem dX8_reads_1 : decode cX8_reads 1 = .ok (.aload_n 0, 1) := by decide +kernel
theorem dX8_reads_2 : decode cX8_reads 2 = .ok (.getfield 414, 3) := by decide +kernel
theorem dX8_reads_5 : decode cX8_reads 5 = .ok (.putfield 411, 3) := by decide +kernel
theorem dX8_reads_8 : decode cX8_reads 8 = .ok (.aload_n 0, 1) := by decide +kernel
theorem dX8_reads_9 : decode cX8_reads 9 = .ok (.aload_n 0, 1) := by decide +kernel
theorem dX8_reads_10 : decode cX8_reads 10 = .ok (.getfield 411, 3) := by decide +kernel
theorem dX8_reads_13 : decode cX8_reads 13 = .ok (.bipush 32, 2) := by decide +kernel
theorem dX8_reads_15 : decode cX8_reads 15 = .ok (.bipush 32, 2) := by decide +kernel
theorem dX8_reads_17 : decode cX8_reads 17 = .ok (.invokevirtual 417, 3) := by decide +kernel
theorem dX8_reads_20 : decode cX8_reads 20 = .ok (.ifCond .ne 18, 3) := by decide +kernel
theorem dX8_reads_23 : decode cX8_reads 23 = .ok (.aload_n 0, 1) := by decide +kernel
theorem dX8_reads_24 : decode cX8_reads 24 = .ok (.aload_n 0, 1) := by decide +kernel
theorem dX8_reads_25 : decode cX8_reads 25 = .ok (.getfield 411, 3) := by decide +kernel
theorem dX8_reads_28 : decode cX8_reads 28 = .ok (.bipush 10, 2) := by decide +kernel
theorem dX8_reads_30 : decode cX8_reads 30 = .ok (.bipush 10, 2) := by decide +kernel
theorem dX8_reads_32 : decode cX8_reads 32 = .ok (.invokevirtual 417, 3) := by decide +kernel
theorem dX8_reads_35 : decode cX8_reads 35 = .ok (.ifCond .eq 16, 3) := by decide +kernel
theorem dX8_reads_38 : decode cX8_reads 38 = .ok (.aload_n 0, 1) := by decide +kernel
theorem dX8_reads_39 : decode cX8_reads 39 = .ok (.dup, 1) := by decide +kernel
theorem dX8_reads_40 : decode cX8_reads 40 = .ok (.getfield 411, 3) := by decide +kernel
theorem dX8_reads_43 : decode cX8_reads 43 = .ok (.iconst 1, 1) := by decide +kernel
theorem dX8_reads_44 : decode cX8_reads 44 = .ok (.iadd, 1) := by decide +kernel
theorem dX8_reads_45 : decode cX8_reads 45 = .ok (.putfield 411, 3) := by decide +kernel
theorem dX8_reads_48 : decode cX8_reads 48 = .ok (.goto (-40), 3) := by decide +kernel
theorem dX8_reads_51 : decode cX8_reads 51 = .ok (.aload_n 0, 1) := by decide +kernel
theorem dX8_reads_52 : decode cX8_reads 52 = .ok (.aload_n 0, 1) := by decide +kernel
theorem dX8_reads_53 : decode cX8_reads 53 = .ok (.getfield 411, 3) := by decide +kernel
theorem dX8_reads_56 : decode cX8_reads 56 = .ok (.iconst 1, 1) := by decide +kernel
theorem dX8_reads_57 : decode cX8_reads 57 = .ok (.iadd, 1) := by decide +kernel
theorem dX8_reads_58 : decode cX8_reads 58 = .ok (.putfield 414, 3) := by decide +kernel
theorem dX8_reads_61 : decode cX8_reads 61 = .ok (.aload_n 0, 1) := by decide +kernel
theorem dX8_reads_62 : decode cX8_reads 62 = .ok (.aload_n 0, 1) := by decide +kernel
theorem dX8_reads_63 : decode cX8_reads 63 = .ok (.getfield 411, 3) := by decide +kernel
theorem dX8_reads_66 : decode cX8_reads 66 = .ok (.aload_n 0, 1) := by decide +kernel
theorem dX8_reads_67 : decode cX8_reads 67 = .ok (.getfield 405, 3) := by decide +kernel
theorem dX8_reads_70 : decode cX8_reads 70 = .ok (.if_icmp .lt 7, 3) := by decide +kernel
theorem dX8_reads_73 : decode cX8_reads 73 = .ok (.iconst 0, 1) := by decide +kernel
theorem dX8_reads_74 : decode cX8_reads 74 = .ok (.goto 64, 3) := by decide +kernel
theorem dX8_reads_77 : decode cX8_reads 77 = .ok (.aload_n 0, 1) := by decide +kernel
theorem dX8_reads_78 : decode cX8_reads 78 = .ok (.getfield 79, 3) := by decide +kernel
theorem dX8_reads_81 : decode cX8_reads 81 = .ok (.aload_n 0, 1) := by decide +kernel
theorem dX8_reads_82 : decode cX8_reads 82 = .ok (.getfield 411, 3) := by decide +kernel
theorem dX8_reads_85 : decode cX8_reads 85 = .ok (.baload, 1) := by decide +kernel
theorem dX8_reads_86 : decode cX8_reads 86 = .ok (.bipush 40, 2) := by decide +kernel
theorem dX8_reads_88 : decode cX8_reads 88 = .ok (.if_icmp .eq 45, 3) := by decide +kernel
theorem dX8_reads_91 : decode cX8_reads 91 = .ok (.aload_n 0, 1) := by decide +kernel
theorem dX8_reads_92 : decode cX8_reads 92 = .ok (.getfield 79, 3) := by decide +kernel
theorem dX8_reads_95 : decode cX8_reads 95 = .ok (.aload_n 0, 1) := by decide +kernel
theorem dX8_reads_96 : decode cX8_reads 96 = .ok (.getfield 411, 3) := by decide +kernel
theorem dX8_reads_99 : decode cX8_reads 99 = .ok (.baload, 1) := by decide +kernel
theorem dX8_reads_100 : decode cX8_reads 100 = .ok (.bipush 41, 2) := by decide +kernel
theorem dX8_reads_102 : decode cX8_reads 102 = .ok (.if_icmp .eq 31, 3) := by decide +kernel
theorem dX8_reads_105 : decode cX8_reads 105 = .ok (.aload_n 0, 1) := by decide +kernel
theorem dX8_reads_106 : decode cX8_reads 106 = .ok (.getfield 79, 3) := by decide +kernel
theorem dX8_reads_109 : decode cX8_reads 109 = .ok (.aload_n 0, 1) := by decide +kernel
theorem dX8_reads_110 : decode cX8_reads 110 = .ok (.getfield 411, 3) := by decide +kernel
theorem dX8_reads_113 : decode cX8_reads 113 = .ok (.baload, 1) := by decide +kernel
theorem dX8_reads_114 : decode cX8_reads 114 = .ok (.bipush 59, 2) := by decide +kernel
theorem dX8_reads_116 : decode cX8_reads 116 = .ok (.if_icmp .eq 17, 3) := by decide +kernel
theorem dX8_reads_119 : decode cX8_reads 119 = .ok (.aload_n 0, 1) := by decide +kernel
theorem dX8_reads_120 : decode cX8_reads 120 = .ok (.getfield 79, 3) := by decide +kernel
theorem dX8_reads_123 : decode cX8_reads 123 = .ok (.aload_n 0, 1) := by decide +kernel
theorem dX8_reads_124 : decode cX8_reads 124 = .ok (.getfield 411, 3) := by decide +kernel
theorem dX8_reads_127 : decode cX8_reads 127 = .ok (.baload, 1) := by decide +kernel
theorem dX8_reads_128 : decode cX8_reads 128 = .ok (.bipush 39, 2) := by decide +kernel
theorem dX8_reads_130 : decode cX8_reads 130 = .ok (.if_icmp .ne 7, 3) := by decide +kernel
theorem dX8_reads_133 : decode cX8_reads 133 = .ok (.iconst 3, 1) := by decide +kernel
theorem dX8_reads_134 : decode cX8_reads 134 = .ok (.goto 4, 3) := by decide +kernel
theorem dX8_reads_137 : decode cX8_reads 137 = .ok (.iconst 4, 1) := by decide +kernel
theorem dX8_reads_138 : decode cX8_reads 138 = .ok (.putfield 421, 3) := by decide +kernel
theorem dX8_reads_141 : decode cX8_reads 141 = .ok (.aload_n 0, 1) := by decide +kernel
theorem dX8_reads_142 : decode cX8_reads 142 = .ok (.aload_n 0, 1) := by decide +kernel
theorem dX8_reads_143 : decode cX8_reads 143 = .ok (.getfield 411, 3) := by decide +kernel
theorem dX8_reads_146 : decode cX8_reads 146 = .ok (.bipush 97, 2) := by decide +kernel
theorem dX8_reads_148 : decode cX8_reads 148 = .ok (.bipush 122, 2) := by decide +kernel
theorem dX8_reads_150 : decode cX8_reads 150 = .ok (.invokevirtual 417, 3) := by decide +kernel
theorem dX8_reads_153 : decode cX8_reads 153 = .ok (.ifCond .eq 115, 3) := by decide +kernel
theorem dX8_reads_156 : decode cX8_reads 156 = .ok (.aload_n 0, 1) := by decide +kernel
theorem dX8_reads_157 : decode cX8_reads 157 = .ok (.lconst 0, 1) := by decide +kernel
theorem dX8_reads_158 : decode cX8_reads 158 = .ok (.putfield 424, 3) := by decide +kernel
theorem dX8_reads_161 : decode cX8_reads 161 = .ok (.aload_n 0, 1) := by decide +kernel
theorem dX8_reads_162 : decode cX8_reads 162 = .ok (.aload_n 0, 1) := by decide +kernel
theorem dX8_reads_163 : decode cX8_reads 163 = .ok (.getfield 411, 3) := by decide +kernel
theorem dX8_reads_166 : decode cX8_reads 166 = .ok (.putfield 414, 3) := by decide +kernel
theorem dX8_reads_169 : decode cX8_reads 169 = .ok (.aload_n 0, 1) := by decide +kernel
theorem dX8_reads_170 : decode cX8_reads 170 = .ok (.aload_n 0, 1) := by decide +kernel
theorem dX8_reads_171 : decode cX8_reads 171 = .ok (.getfield 414, 3) := by decide +kernel
theorem dX8_reads_174 : decode cX8_reads 174 = .ok (.bipush 97, 2) := by decide +kernel
theorem dX8_reads_176 : decode cX8_reads 176 = .ok (.bipush 122, 2) := by decide +kernel
theorem dX8_reads_178 : decode cX8_reads 178 = .ok (.invokevirtual 417, 3) := by decide +kernel
theorem dX8_reads_181 : decode cX8_reads 181 = .ok (.ifCond .eq 61, 3) := by decide +kernel
theorem dX8_reads_184 : decode cX8_reads 184 = .ok (.aload_n 0, 1) := by decide +kernel
theorem dX8_reads_185 : decode cX8_reads 185 = .ok (.aload_n 0, 1) := by decide +kernel
theorem dX8_reads_186 : decode cX8_reads 186 = .ok (.getfield 414, 3) := by decide +kernel
theorem dX8_reads_189 : decode cX8_reads 189 = .ok (.aload_n 0, 1) := by decide +kernel
theorem dX8_reads_190 : decode cX8_reads 190 = .ok (.getfield 411, 3) := by decide +kernel
theorem dX8_reads_193 : decode cX8_reads 193 = .ok (.isub, 1) := by decide +kernel
theorem dX8_reads_194 : decode cX8_reads 194 = .ok (.bipush 8, 2) := by decide +kernel
theorem dX8_reads_196 : decode cX8_reads 196 = .ok (.if_icmp .ge 29, 3) := by decide +kernel
theorem dX8_reads_199 : decode cX8_reads 199 = .ok (.ldc2_w 428, 3) := by decide +kernel
theorem dX8_reads_202 : decode cX8_reads 202 = .ok (.aload_n 0, 1) := by decide +kernel
theorem dX8_reads_203 : decode cX8_reads 203 = .ok (.getfield 424, 3) := by decide +kernel
theorem dX8_reads_206 : decode cX8_reads 206 = .ok (.lmul, 1) := by decide +kernel
theorem dX8_reads_207 : decode cX8_reads 207 = .ok (.aload_n 0, 1) := by decide +kernel
theorem dX8_reads_208 : decode cX8_reads 208 = .ok (.getfield 79, 3) := by decide +kernel
theorem dX8_reads_211 : decode cX8_reads 211 = .ok (.aload_n 0, 1) := by decide +kernel
theorem dX8_reads_212 : decode cX8_reads 212 = .ok (.getfield 414, 3) := by decide +kernel
theorem dX8_reads_215 : decode cX8_reads 215 = .ok (.baload, 1) := by decide +kernel
theorem dX8_reads_216 : decode cX8_reads 216 = .ok (.i2l, 1) := by decide +kernel
theorem dX8_reads_217 : decode cX8_reads 217 = .ok (.ladd, 1) := by decide +kernel
theorem dX8_reads_218 : decode cX8_reads 218 = .ok (.ldc2_w 430, 3) := by decide +kernel
theorem dX8_reads_221 : decode cX8_reads 221 = .ok (.lsub, 1) := by decide +kernel
theorem dX8_reads_222 : decode cX8_reads 222 = .ok (.goto 4, 3) := by decide +kernel
theorem dX8_reads_225 : decode cX8_reads 225 = .ok (.lconst 0, 1) := by decide +kernel
theorem dX8_reads_226 : decode cX8_reads 226 = .ok (.putfield 424, 3) := by decide +kernel
theorem dX8_reads_229 : decode cX8_reads 229 = .ok (.aload_n 0, 1) := by decide +kernel
theorem dX8_reads_230 : decode cX8_reads 230 = .ok (.dup, 1) := by decide +kernel
theorem dX8_reads_231 : decode cX8_reads 231 = .ok (.getfield 414, 3) := by decide +kernel
theorem dX8_reads_234 : decode cX8_reads 234 = .ok (.iconst 1, 1) := by decide +kernel
theorem dX8_reads_235 : decode cX8_reads 235 = .ok (.iadd, 1) := by decide +kernel
theorem dX8_reads_236 : decode cX8_reads 236 = .ok (.putfield 414, 3) := by decide +kernel
theorem dX8_reads_239 : decode cX8_reads 239 = .ok (.goto (-70), 3) := by decide +kernel
theorem dX8_reads_242 : decode cX8_reads 242 = .ok (.aload_n 0, 1) := by decide +kernel
theorem dX8_reads_243 : decode cX8_reads 243 = .ok (.aload_n 0, 1) := by decide +kernel
theorem dX8_reads_244 : decode cX8_reads 244 = .ok (.getfield 414, 3) := by decide +kernel
theorem dX8_reads_247 : decode cX8_reads 247 = .ok (.aload_n 0, 1) := by decide +kernel
theorem dX8_reads_248 : decode cX8_reads 248 = .ok (.getfield 411, 3) := by decide +kernel
theorem dX8_reads_251 : decode cX8_reads 251 = .ok (.isub, 1) := by decide +kernel
theorem dX8_reads_252 : decode cX8_reads 252 = .ok (.bipush 8, 2) := by decide +kernel
theorem dX8_reads_254 : decode cX8_reads 254 = .ok (.if_icmp .le 7, 3) := by decide +kernel
theorem dX8_reads_257 : decode cX8_reads 257 = .ok (.iconst 4, 1) := by decide +kernel
theorem dX8_reads_258 : decode cX8_reads 258 = .ok (.goto 4, 3) := by decide +kernel
theorem dX8_reads_261 : decode cX8_reads 261 = .ok (.iconst 1, 1) := by decide +kernel
theorem dX8_reads_262 : decode cX8_reads 262 = .ok (.putfield 421, 3) := by decide +kernel
theorem dX8_reads_265 : decode cX8_reads 265 = .ok (.goto 125, 3) := by decide +kernel
theorem dX8_reads_268 : decode cX8_reads 268 = .ok (.aload_n 0, 1) := by decide +kernel
theorem dX8_reads_269 : decode cX8_reads 269 = .ok (.aload_n 0, 1) := by decide +kernel
theorem dX8_reads_270 : decode cX8_reads 270 = .ok (.getfield 411, 3) := by decide +kernel
theorem dX8_reads_273 : decode cX8_reads 273 = .ok (.bipush 48, 2) := by decide +kernel
theorem dX8_reads_275 : decode cX8_reads 275 = .ok (.bipush 57, 2) := by decide +kernel
theorem dX8_reads_277 : decode cX8_reads 277 = .ok (.invokevirtual 417, 3) := by decide +kernel
theorem dX8_reads_280 : decode cX8_reads 280 = .ok (.ifCond .eq 110, 3) := by decide +kernel
theorem dX8_reads_283 : decode cX8_reads 283 = .ok (.aload_n 0, 1) := by decide +kernel
theorem dX8_reads_284 : decode cX8_reads 284 = .ok (.iconst 0, 1) := by decide +kernel
theorem dX8_reads_285 : decode cX8_reads 285 = .ok (.putfield 432, 3) := by decide +kernel
theorem dX8_reads_288 : decode cX8_reads 288 = .ok (.aload_n 0, 1) := by decide +kernel
theorem dX8_reads_289 : decode cX8_reads 289 = .ok (.aload_n 0, 1) := by decide +kernel
theorem dX8_reads_290 : decode cX8_reads 290 = .ok (.getfield 411, 3) := by decide +kernel
theorem dX8_reads_293 : decode cX8_reads 293 = .ok (.putfield 414, 3) := by decide +kernel
theorem dX8_reads_296 : decode cX8_reads 296 = .ok (.aload_n 0, 1) := by decide +kernel
theorem dX8_reads_297 : decode cX8_reads 297 = .ok (.aload_n 0, 1) := by decide +kernel
theorem dX8_reads_298 : decode cX8_reads 298 = .ok (.getfield 414, 3) := by decide +kernel
theorem dX8_reads_301 : decode cX8_reads 301 = .ok (.bipush 48, 2) := by decide +kernel
theorem dX8_reads_303 : decode cX8_reads 303 = .ok (.bipush 57, 2) := by decide +kernel
theorem dX8_reads_305 : decode cX8_reads 305 = .ok (.invokevirtual 417, 3) := by decide +kernel
theorem dX8_reads_308 : decode cX8_reads 308 = .ok (.ifCond .eq 60, 3) := by decide +kernel
theorem dX8_reads_311 : decode cX8_reads 311 = .ok (.aload_n 0, 1) := by decide +kernel
theorem dX8_reads_312 : decode cX8_reads 312 = .ok (.aload_n 0, 1) := by decide +kernel
theorem dX8_reads_313 : decode cX8_reads 313 = .ok (.getfield 414, 3) := by decide +kernel
theorem dX8_reads_316 : decode cX8_reads 316 = .ok (.aload_n 0, 1) := by decide +kernel
theorem dX8_reads_317 : decode cX8_reads 317 = .ok (.getfield 411, 3) := by decide +kernel
theorem dX8_reads_320 : decode cX8_reads 320 = .ok (.isub, 1) := by decide +kernel
theorem dX8_reads_321 : decode cX8_reads 321 = .ok (.iconst 2, 1) := by decide +kernel
theorem dX8_reads_322 : decode cX8_reads 322 = .ok (.if_icmp .ge 26, 3) := by decide +kernel
theorem dX8_reads_325 : decode cX8_reads 325 = .ok (.bipush 10, 2) := by decide +kernel
theorem dX8_reads_327 : decode cX8_reads 327 = .ok (.aload_n 0, 1) := by decide +kernel
theorem dX8_reads_328 : decode cX8_reads 328 = .ok (.getfield 432, 3) := by decide +kernel
theorem dX8_reads_331 : decode cX8_reads 331 = .ok (.imul, 1) := by decide +kernel
theorem dX8_reads_332 : decode cX8_reads 332 = .ok (.aload_n 0, 1) := by decide +kernel
theorem dX8_reads_333 : decode cX8_reads 333 = .ok (.getfield 79, 3) := by decide +kernel
theorem dX8_reads_336 : decode cX8_reads 336 = .ok (.aload_n 0, 1) := by decide +kernel
theorem dX8_reads_337 : decode cX8_reads 337 = .ok (.getfield 414, 3) := by decide +kernel
theorem dX8_reads_340 : decode cX8_reads 340 = .ok (.baload, 1) := by decide +kernel
theorem dX8_reads_341 : decode cX8_reads 341 = .ok (.iadd, 1) := by decide +kernel
theorem dX8_reads_342 : decode cX8_reads 342 = .ok (.bipush 48, 2) := by decide +kernel
theorem dX8_reads_344 : decode cX8_reads 344 = .ok (.isub, 1) := by decide +kernel
theorem dX8_reads_345 : decode cX8_reads 345 = .ok (.goto 7, 3) := by decide +kernel
theorem dX8_reads_348 : decode cX8_reads 348 = .ok (.aload_n 0, 1) := by decide +kernel
theorem dX8_reads_349 : decode cX8_reads 349 = .ok (.getfield 432, 3) := by decide +kernel
theorem dX8_reads_352 : decode cX8_reads 352 = .ok (.putfield 432, 3) := by decide +kernel
theorem dX8_reads_355 : decode cX8_reads 355 = .ok (.aload_n 0, 1) := by decide +kernel
theorem dX8_reads_356 : decode cX8_reads 356 = .ok (.dup, 1) := by decide +kernel
theorem dX8_reads_357 : decode cX8_reads 357 = .ok (.getfield 414, 3) := by decide +kernel
theorem dX8_reads_360 : decode cX8_reads 360 = .ok (.iconst 1, 1) := by decide +kernel
theorem dX8_reads_361 : decode cX8_reads 361 = .ok (.iadd, 1) := by decide +kernel
theorem dX8_reads_362 : decode cX8_reads 362 = .ok (.putfield 414, 3) := by decide +kernel
theorem dX8_reads_365 : decode cX8_reads 365 = .ok (.goto (-69), 3) := by decide +kernel
theorem dX8_reads_368 : decode cX8_reads 368 = .ok (.aload_n 0, 1) := by decide +kernel
theorem dX8_reads_369 : decode cX8_reads 369 = .ok (.aload_n 0, 1) := by decide +kernel
theorem dX8_reads_370 : decode cX8_reads 370 = .ok (.getfield 414, 3) := by decide +kernel
theorem dX8_reads_373 : decode cX8_reads 373 = .ok (.aload_n 0, 1) := by decide +kernel
theorem dX8_reads_374 : decode cX8_reads 374 = .ok (.getfield 411, 3) := by decide +kernel
theorem dX8_reads_377 : decode cX8_reads 377 = .ok (.isub, 1) := by decide +kernel
theorem dX8_reads_378 : decode cX8_reads 378 = .ok (.iconst 2, 1) := by decide +kernel
theorem dX8_reads_379 : decode cX8_reads 379 = .ok (.if_icmp .le 7, 3) := by decide +kernel
theorem dX8_reads_382 : decode cX8_reads 382 = .ok (.iconst 4, 1) := by decide +kernel
theorem dX8_reads_383 : decode cX8_reads 383 = .ok (.goto 4, 3) := by decide +kernel
theorem dX8_reads_386 : decode cX8_reads 386 = .ok (.iconst 2, 1) := by decide +kernel
theorem dX8_reads_387 : decode cX8_reads 387 = .ok (.putfield 421, 3) := by decide +kernel
theorem dX8_reads_390 : decode cX8_reads 390 = .ok (.return_, 1) := by decide +kernel
theorem dX8_good_0 : decode cX8_good 0 = .ok (.aload_n 0, 1) := by decide +kernel
theorem dX8_good_1 : decode cX8_good 1 = .ok (.getfield 435, 3) := by decide +kernel
theorem dX8_good_4 : decode cX8_good 4 = .ok (.ifCond .ne 7, 3) := by decide +kernel
theorem dX8_good_7 : decode cX8_good 7 = .ok (.iconst 1, 1) := by decide +kernel
theorem dX8_good_8 : decode cX8_good 8 = .ok (.goto 4, 3) := by decide +kernel
theorem dX8_good_11 : decode cX8_good 11 = .ok (.iconst 0, 1) := by decide +kernel
theorem dX8_good_12 : decode cX8_good 12 = .ok (.ireturn, 1) := by decide +kernel
theorem dX8_must_0 : decode cX8_must 0 = .ok (.iload_n 1, 1) := by decide +kernel
theorem dX8_must_1 : decode cX8_must 1 = .ok (.ifCond .ne 10, 3) := by decide +kernel
theorem dX8_must_4 : decode cX8_must 4 = .ok (.aload_n 0, 1) := by decide +kernel
theorem dX8_must_5 : decode cX8_must 5 = .ok (.getfield 435, 3) := by decide +kernel
theorem dX8_must_8 : decode cX8_must 8 = .ok (.ifCond .le 4, 3) := by decide +kernel
theorem dX8_must_11 : decode cX8_must 11 = .ok (.return_, 1) := by decide +kernel
theorem dX8_must_12 : decode cX8_must 12 = .ok (.aload_n 0, 1) := by decide +kernel
theorem dX8_must_13 : decode cX8_must 13 = .ok (.iload_n 2, 1) := by decide +kernel
theorem dX8_must_14 : decode cX8_must 14 = .ok (.iconst 2, 1) := by decide +kernel
theorem dX8_must_15 : decode cX8_must 15 = .ok (.if_icmp .ne 15, 3) := by decide +kernel
theorem dX8_must_18 : decode cX8_must 18 = .ok (.aload_n 0, 1) := by decide +kernel
theorem dX8_must_19 : decode cX8_must 19 = .ok (.getfield 421, 3) := by decide +kernel
theorem dX8_must_22 : decode cX8_must 22 = .ok (.iconst 4, 1) := by decide +kernel
theorem dX8_must_23 : decode cX8_must 23 = .ok (.if_icmp .ne 7, 3) := by decide +kernel
theorem dX8_must_26 : decode cX8_must 26 = .ok (.iconst 1, 1) := by decide +kernel
theorem dX8_must_27 : decode cX8_must 27 = .ok (.goto 4, 3) := by decide +kernel
theorem dX8_must_30 : decode cX8_must 30 = .ok (.iload_n 2, 1) := by decide +kernel
theorem dX8_must_31 : decode cX8_must 31 = .ok (.putfield 435, 3) := by decide +kernel
theorem dX8_must_34 : decode cX8_must 34 = .ok (.aload_n 0, 1) := by decide +kernel
theorem dX8_must_35 : decode cX8_must 35 = .ok (.aload_n 0, 1) := by decide +kernel
theorem dX8_must_36 : decode cX8_must 36 = .ok (.getfield 411, 3) := by decide +kernel
theorem dX8_must_39 : decode cX8_must 39 = .ok (.putfield 438, 3) := by decide +kernel
theorem dX8_must_42 : decode cX8_must 42 = .ok (.return_, 1) := by decide +kernel
theorem dX8_goesOn_0 : decode cX8_goesOn 0 = .ok (.aload_n 0, 1) := by decide +kernel
theorem dX8_goesOn_1 : decode cX8_goesOn 1 = .ok (.invokevirtual 408, 3) := by decide +kernel
theorem dX8_goesOn_4 : decode cX8_goesOn 4 = .ok (.ifCond .eq 7, 3) := by decide +kernel
theorem dX8_goesOn_7 : decode cX8_goesOn 7 = .ok (.aload_n 0, 1) := by decide +kernel
theorem dX8_goesOn_8 : decode cX8_goesOn 8 = .ok (.invokevirtual 441, 3) := by decide +kernel
theorem dX8_goesOn_11 : decode cX8_goesOn 11 = .ok (.return_, 1) := by decide +kernel
theorem dX8_isWord_0 : decode cX8_isWord 0 = .ok (.aload_n 0, 1) := by decide +kernel
theorem dX8_isWord_1 : decode cX8_isWord 1 = .ok (.invokevirtual 408, 3) := by decide +kernel
theorem dX8_isWord_4 : decode cX8_isWord 4 = .ok (.ifCond .eq 24, 3) := by decide +kernel
theorem dX8_isWord_7 : decode cX8_isWord 7 = .ok (.aload_n 0, 1) := by decide +kernel
theorem dX8_isWord_8 : decode cX8_isWord 8 = .ok (.getfield 421, 3) := by decide +kernel
theorem dX8_isWord_11 : decode cX8_isWord 11 = .ok (.iconst 1, 1) := by decide +kernel
theorem dX8_isWord_12 : decode cX8_isWord 12 = .ok (.if_icmp .ne 16, 3) := by decide +kernel
theorem dX8_isWord_15 : decode cX8_isWord 15 = .ok (.aload_n 0, 1) := by decide +kernel
theorem dX8_isWord_16 : decode cX8_isWord 16 = .ok (.getfield 424, 3) := by decide +kernel
theorem dX8_isWord_19 : decode cX8_isWord 19 = .ok (.lload_n 1, 1) := by decide +kernel
theorem dX8_isWord_20 : decode cX8_isWord 20 = .ok (.lcmp, 1) := by decide +kernel
theorem dX8_isWord_21 : decode cX8_isWord 21 = .ok (.ifCond .ne 7, 3) := by decide +kernel
theorem dX8_isWord_24 : decode cX8_isWord 24 = .ok (.iconst 1, 1) := by decide +kernel
theorem dX8_isWord_25 : decode cX8_isWord 25 = .ok (.goto 4, 3) := by decide +kernel
theorem dX8_isWord_28 : decode cX8_isWord 28 = .ok (.iconst 0, 1) := by decide +kernel
theorem dX8_isWord_29 : decode cX8_isWord 29 = .ok (.ireturn, 1) := by decide +kernel
theorem dX8_isName_0 : decode cX8_isName 0 = .ok (.aload_n 0, 1) := by decide +kernel
theorem dX8_isName_1 : decode cX8_isName 1 = .ok (.invokevirtual 408, 3) := by decide +kernel
theorem dX8_isName_4 : decode cX8_isName 4 = .ok (.ifCond .eq 48, 3) := by decide +kernel
theorem dX8_isName_7 : decode cX8_isName 7 = .ok (.aload_n 0, 1) := by decide +kernel
theorem dX8_isName_8 : decode cX8_isName 8 = .ok (.getfield 421, 3) := by decide +kernel
theorem dX8_isName_11 : decode cX8_isName 11 = .ok (.iconst 1, 1) := by decide +kernel
theorem dX8_isName_12 : decode cX8_isName 12 = .ok (.if_icmp .ne 40, 3) := by decide +kernel
theorem dX8_isName_15 : decode cX8_isName 15 = .ok (.aload_n 0, 1) := by decide +kernel
theorem dX8_isName_16 : decode cX8_isName 16 = .ok (.getfield 424, 3) := by decide +kernel
theorem dX8_isName_19 : decode cX8_isName 19 = .ok (.ldc2_w 444, 3) := by decide +kernel
theorem dX8_isName_22 : decode cX8_isName 22 = .ok (.lcmp, 1) := by decide +kernel
theorem dX8_isName_23 : decode cX8_isName 23 = .ok (.ifCond .eq 29, 3) := by decide +kernel
theorem dX8_isName_26 : decode cX8_isName 26 = .ok (.aload_n 0, 1) := by decide +kernel
theorem dX8_isName_27 : decode cX8_isName 27 = .ok (.getfield 424, 3) := by decide +kernel
theorem dX8_isName_30 : decode cX8_isName 30 = .ok (.ldc2_w 446, 3) := by decide +kernel
theorem dX8_isName_33 : decode cX8_isName 33 = .ok (.lcmp, 1) := by decide +kernel
theorem dX8_isName_34 : decode cX8_isName 34 = .ok (.ifCond .eq 18, 3) := by decide +kernel
theorem dX8_isName_37 : decode cX8_isName 37 = .ok (.aload_n 0, 1) := by decide +kernel
theorem dX8_isName_38 : decode cX8_isName 38 = .ok (.getfield 424, 3) := by decide +kernel
theorem dX8_isName_41 : decode cX8_isName 41 = .ok (.ldc2_w 448, 3) := by decide +kernel
theorem dX8_isName_44 : decode cX8_isName 44 = .ok (.lcmp, 1) := by decide +kernel
theorem dX8_isName_45 : decode cX8_isName 45 = .ok (.ifCond .eq 7, 3) := by decide +kernel
theorem dX8_isName_48 : decode cX8_isName 48 = .ok (.iconst 1, 1) := by decide +kernel
theorem dX8_isName_49 : decode cX8_isName 49 = .ok (.goto 4, 3) := by decide +kernel
theorem dX8_isName_52 : decode cX8_isName 52 = .ok (.iconst 0, 1) := by decide +kernel
theorem dX8_isName_53 : decode cX8_isName 53 = .ok (.ireturn, 1) := by decide +kernel
theorem dX8_nameNow_0 : decode cX8_nameNow 0 = .ok (.iconst 0, 1) := by decide +kernel
theorem dX8_nameNow_1 : decode cX8_nameNow 1 = .ok (.istore_n 1, 1) := by decide +kernel
theorem dX8_nameNow_2 : decode cX8_nameNow 2 = .ok (.iload_n 1, 1) := by decide +kernel
theorem dX8_nameNow_3 : decode cX8_nameNow 3 = .ok (.aload_n 0, 1) := by decide +kernel
theorem dX8_nameNow_4 : decode cX8_nameNow 4 = .ok (.getfield 450, 3) := by decide +kernel
theorem dX8_nameNow_7 : decode cX8_nameNow 7 = .ok (.if_icmp .ge 25, 3) := by decide +kernel
theorem dX8_nameNow_10 : decode cX8_nameNow 10 = .ok (.aload_n 0, 1) := by decide +kernel
theorem dX8_nameNow_11 : decode cX8_nameNow 11 = .ok (.getfield 89, 3) := by decide +kernel
theorem dX8_nameNow_14 : decode cX8_nameNow 14 = .ok (.iload_n 1, 1) := by decide +kernel
theorem dX8_nameNow_15 : decode cX8_nameNow 15 = .ok (.laload, 1) := by decide +kernel
theorem dX8_nameNow_16 : decode cX8_nameNow 16 = .ok (.aload_n 0, 1) := by decide +kernel
theorem dX8_nameNow_17 : decode cX8_nameNow 17 = .ok (.getfield 424, 3) := by decide +kernel
theorem dX8_nameNow_20 : decode cX8_nameNow 20 = .ok (.lcmp, 1) := by decide +kernel
theorem dX8_nameNow_21 : decode cX8_nameNow 21 = .ok (.ifCond .ne 5, 3) := by decide +kernel
theorem dX8_nameNow_24 : decode cX8_nameNow 24 = .ok (.iload_n 1, 1) := by decide +kernel
theorem dX8_nameNow_25 : decode cX8_nameNow 25 = .ok (.ireturn, 1) := by decide +kernel
theorem dX8_nameNow_26 : decode cX8_nameNow 26 = .ok (.iinc 1 1, 3) := by decide +kernel
theorem dX8_nameNow_29 : decode cX8_nameNow 29 = .ok (.goto (-27), 3) := by decide +kernel
theorem dX8_nameNow_32 : decode cX8_nameNow 32 = .ok (.iconst (-1), 1) := by decide +kernel
theorem dX8_nameNow_33 : decode cX8_nameNow 33 = .ok (.ireturn, 1) := by decide +kernel
theorem dX8_takesNew_0 : decode cX8_takesNew 0 = .ok (.aload_n 0, 1) := by decide +kernel
theorem dX8_takesNew_1 : decode cX8_takesNew 1 = .ok (.aload_n 0, 1) := by decide +kernel
theorem dX8_takesNew_2 : decode cX8_takesNew 2 = .ok (.getfield 450, 3) := by decide +kernel
theorem dX8_takesNew_5 : decode cX8_takesNew 5 = .ok (.bipush 6, 2) := by decide +kernel
theorem dX8_takesNew_7 : decode cX8_takesNew 7 = .ok (.if_icmp .ge 7, 3) := by decide +kernel
theorem dX8_takesNew_10 : decode cX8_takesNew 10 = .ok (.iconst 1, 1) := by decide +kernel
theorem dX8_takesNew_11 : decode cX8_takesNew 11 = .ok (.goto 4, 3) := by decide +kernel
theorem dX8_takesNew_14 : decode cX8_takesNew 14 = .ok (.iconst 0, 1) := by decide +kernel
theorem dX8_takesNew_15 : decode cX8_takesNew 15 = .ok (.iconst 5, 1) := by decide +kernel
theorem dX8_takesNew_16 : decode cX8_takesNew 16 = .ok (.invokevirtual 453, 3) := by decide +kernel
theorem dX8_takesNew_19 : decode cX8_takesNew 19 = .ok (.aload_n 0, 1) := by decide +kernel
theorem dX8_takesNew_20 : decode cX8_takesNew 20 = .ok (.invokevirtual 457, 3) := by decide +kernel
theorem dX8_takesNew_23 : decode cX8_takesNew 23 = .ok (.aload_n 0, 1) := by decide +kernel
theorem dX8_takesNew_24 : decode cX8_takesNew 24 = .ok (.aload_n 0, 1) := by decide +kernel
theorem dX8_takesNew_25 : decode cX8_takesNew 25 = .ok (.invokevirtual 460, 3) := by decide +kernel
theorem dX8_takesNew_28 : decode cX8_takesNew 28 = .ok (.iconst 2, 1) := by decide +kernel
theorem dX8_takesNew_29 : decode cX8_takesNew 29 = .ok (.invokevirtual 453, 3) := by decide +kernel
theorem dX8_takesNew_32 : decode cX8_takesNew 32 = .ok (.aload_n 0, 1) := by decide +kernel
theorem dX8_takesNew_33 : decode cX8_takesNew 33 = .ok (.aload_n 0, 1) := by decide +kernel
theorem dX8_takesNew_34 : decode cX8_takesNew 34 = .ok (.invokevirtual 463, 3) := by decide +kernel
theorem dX8_takesNew_37 : decode cX8_takesNew 37 = .ok (.iconst (-1), 1) := by decide +kernel
theorem dX8_takesNew_38 : decode cX8_takesNew 38 = .ok (.if_icmp .ne 7, 3) := by decide +kernel
theorem dX8_takesNew_41 : decode cX8_takesNew 41 = .ok (.iconst 1, 1) := by decide +kernel
theorem dX8_takesNew_42 : decode cX8_takesNew 42 = .ok (.goto 4, 3) := by decide +kernel
theorem dX8_takesNew_45 : decode cX8_takesNew 45 = .ok (.iconst 0, 1) := by decide +kernel
theorem dX8_takesNew_46 : decode cX8_takesNew 46 = .ok (.iconst 4, 1) := by decide +kernel
theorem dX8_takesNew_47 : decode cX8_takesNew 47 = .ok (.invokevirtual 453, 3) := by decide +kernel
theorem dX8_takesNew_50 : decode cX8_takesNew 50 = .ok (.aload_n 0, 1) := by decide +kernel
theorem dX8_takesNew_51 : decode cX8_takesNew 51 = .ok (.invokevirtual 408, 3) := by decide +kernel
theorem dX8_takesNew_54 : decode cX8_takesNew 54 = .ok (.ifCond .ne 4, 3) := by decide +kernel
theorem dX8_takesNew_57 : decode cX8_takesNew 57 = .ok (.return_, 1) := by decide +kernel
theorem dX8_takesNew_58 : decode cX8_takesNew 58 = .ok (.aload_n 0, 1) := by decide +kernel
theorem dX8_takesNew_59 : decode cX8_takesNew 59 = .ok (.getfield 89, 3) := by decide +kernel
theorem dX8_takesNew_62 : decode cX8_takesNew 62 = .ok (.aload_n 0, 1) := by decide +kernel
theorem dX8_takesNew_63 : decode cX8_takesNew 63 = .ok (.getfield 450, 3) := by decide +kernel
theorem dX8_takesNew_66 : decode cX8_takesNew 66 = .ok (.aload_n 0, 1) := by decide +kernel
theorem dX8_takesNew_67 : decode cX8_takesNew 67 = .ok (.getfield 424, 3) := by decide +kernel
theorem dX8_takesNew_70 : decode cX8_takesNew 70 = .ok (.lastore, 1) := by decide +kernel
theorem dX8_takesNew_71 : decode cX8_takesNew 71 = .ok (.aload_n 0, 1) := by decide +kernel
theorem dX8_takesNew_72 : decode cX8_takesNew 72 = .ok (.getfield 22, 3) := by decide +kernel
theorem dX8_takesNew_75 : decode cX8_takesNew 75 = .ok (.invokestatic 96, 3) := by decide +kernel
theorem dX8_takesNew_78 : decode cX8_takesNew 78 = .ok (.aload_n 0, 1) := by decide +kernel
theorem dX8_takesNew_79 : decode cX8_takesNew 79 = .ok (.invokevirtual 441, 3) := by decide +kernel
theorem dX8_takesNew_82 : decode cX8_takesNew 82 = .ok (.return_, 1) := by decide +kernel
theorem dX8_readsPoints_0 : decode cX8_readsPoints 0 = .ok (.aload_n 0, 1) := by decide +kernel
theorem dX8_readsPoints_1 : decode cX8_readsPoints 1 = .ok (.aload_n 0, 1) := by decide +kernel
theorem dX8_readsPoints_2 : decode cX8_readsPoints 2 = .ok (.getfield 466, 3) := by decide +kernel
theorem dX8_readsPoints_5 : decode cX8_readsPoints 5 = .ok (.ifCond .ne 7, 3) := by decide +kernel
theorem dX8_readsPoints_8 : decode cX8_readsPoints 8 = .ok (.iconst 1, 1) := by decide +kernel
theorem dX8_readsPoints_9 : decode cX8_readsPoints 9 = .ok (.goto 4, 3) := by decide +kernel
theorem dX8_readsPoints_12 : decode cX8_readsPoints 12 = .ok (.iconst 0, 1) := by decide +kernel
theorem dX8_readsPoints_13 : decode cX8_readsPoints 13 = .ok (.iconst 2, 1) := by decide +kernel
theorem dX8_readsPoints_14 : decode cX8_readsPoints 14 = .ok (.invokevirtual 453, 3) := by decide +kernel
theorem dX8_readsPoints_17 : decode cX8_readsPoints 17 = .ok (.aload_n 0, 1) := by decide +kernel
theorem dX8_readsPoints_18 : decode cX8_readsPoints 18 = .ok (.invokevirtual 457, 3) := by decide +kernel
theorem dX8_readsPoints_21 : decode cX8_readsPoints 21 = .ok (.aload_n 0, 1) := by decide +kernel
theorem dX8_readsPoints_22 : decode cX8_readsPoints 22 = .ok (.aload_n 0, 1) := by decide +kernel
theorem dX8_readsPoints_23 : decode cX8_readsPoints 23 = .ok (.getfield 421, 3) := by decide +kernel
theorem dX8_readsPoints_26 : decode cX8_readsPoints 26 = .ok (.iconst 2, 1) := by decide +kernel
theorem dX8_readsPoints_27 : decode cX8_readsPoints 27 = .ok (.if_icmp .ne 7, 3) := by decide +kernel
theorem dX8_readsPoints_30 : decode cX8_readsPoints 30 = .ok (.iconst 1, 1) := by decide +kernel
theorem dX8_readsPoints_31 : decode cX8_readsPoints 31 = .ok (.goto 4, 3) := by decide +kernel
theorem dX8_readsPoints_34 : decode cX8_readsPoints 34 = .ok (.iconst 0, 1) := by decide +kernel
theorem dX8_readsPoints_35 : decode cX8_readsPoints 35 = .ok (.iconst 2, 1) := by decide +kernel
theorem dX8_readsPoints_36 : decode cX8_readsPoints 36 = .ok (.invokevirtual 453, 3) := by decide +kernel
theorem dX8_readsPoints_39 : decode cX8_readsPoints 39 = .ok (.aload_n 0, 1) := by decide +kernel
theorem dX8_readsPoints_40 : decode cX8_readsPoints 40 = .ok (.aload_n 0, 1) := by decide +kernel
theorem dX8_readsPoints_41 : decode cX8_readsPoints 41 = .ok (.getfield 432, 3) := by decide +kernel
theorem dX8_readsPoints_44 : decode cX8_readsPoints 44 = .ok (.i2l, 1) := by decide +kernel
theorem dX8_readsPoints_45 : decode cX8_readsPoints 45 = .ok (.ldc2_w 469, 3) := by decide +kernel
theorem dX8_readsPoints_48 : decode cX8_readsPoints 48 = .ok (.ldc2_w 124, 3) := by decide +kernel
theorem dX8_readsPoints_51 : decode cX8_readsPoints 51 = .ok (.invokestatic 114, 3) := by decide +kernel
theorem dX8_readsPoints_54 : decode cX8_readsPoints 54 = .ok (.iconst 3, 1) := by decide +kernel
theorem dX8_readsPoints_55 : decode cX8_readsPoints 55 = .ok (.invokevirtual 453, 3) := by decide +kernel
theorem dX8_readsPoints_58 : decode cX8_readsPoints 58 = .ok (.aload_n 0, 1) := by decide +kernel
theorem dX8_readsPoints_59 : decode cX8_readsPoints 59 = .ok (.invokevirtual 408, 3) := by decide +kernel
theorem dX8_readsPoints_62 : decode cX8_readsPoints 62 = .ok (.ifCond .eq 11, 3) := by decide +kernel
theorem dX8_readsPoints_65 : decode cX8_readsPoints 65 = .ok (.aload_n 0, 1) := by decide +kernel
theorem dX8_readsPoints_66 : decode cX8_readsPoints 66 = .ok (.aload_n 0, 1) := by decide +kernel
theorem dX8_readsPoints_67 : decode cX8_readsPoints 67 = .ok (.getfield 432, 3) := by decide +kernel
theorem dX8_readsPoints_70 : decode cX8_readsPoints 70 = .ok (.putfield 466, 3) := by decide +kernel
theorem dX8_readsPoints_73 : decode cX8_readsPoints 73 = .ok (.aload_n 0, 1) := by decide +kernel
theorem dX8_readsPoints_74 : decode cX8_readsPoints 74 = .ok (.invokevirtual 457, 3) := by decide +kernel
theorem dX8_readsPoints_77 : decode cX8_readsPoints 77 = .ok (.return_, 1) := by decide +kernel
theorem dX8_readsCycle_0 : decode cX8_readsCycle 0 = .ok (.iload_n 1, 1) := by decide +kernel
theorem dX8_readsCycle_1 : decode cX8_readsCycle 1 = .ok (.istore_n 2, 1) := by decide +kernel
theorem dX8_readsCycle_2 : decode cX8_readsCycle 2 = .ok (.iconst (-1), 1) := by decide +kernel
theorem dX8_readsCycle_3 : decode cX8_readsCycle 3 = .ok (.istore_n 3, 1) := by decide +kernel
theorem dX8_readsCycle_4 : decode cX8_readsCycle 4 = .ok (.iconst (-1), 1) := by decide +kernel
theorem dX8_readsCycle_5 : decode cX8_readsCycle 5 = .ok (.istore 4, 2) := by decide +kernel
theorem dX8_readsCycle_7 : decode cX8_readsCycle 7 = .ok (.aload_n 0, 1) := by decide +kernel
theorem dX8_readsCycle_8 : decode cX8_readsCycle 8 = .ok (.aload_n 0, 1) := by decide +kernel
theorem dX8_readsCycle_9 : decode cX8_readsCycle 9 = .ok (.bipush 40, 2) := by decide +kernel
theorem dX8_readsCycle_11 : decode cX8_readsCycle 11 = .ok (.invokevirtual 471, 3) := by decide +kernel
theorem dX8_readsCycle_14 : decode cX8_readsCycle 14 = .ok (.iconst 2, 1) := by decide +kernel
theorem dX8_readsCycle_15 : decode cX8_readsCycle 15 = .ok (.invokevirtual 453, 3) := by decide +kernel
theorem dX8_readsCycle_18 : decode cX8_readsCycle 18 = .ok (.aload_n 0, 1) := by decide +kernel
theorem dX8_readsCycle_19 : decode cX8_readsCycle 19 = .ok (.invokevirtual 457, 3) := by decide +kernel
theorem dX8_readsCycle_22 : decode cX8_readsCycle 22 = .ok (.aload_n 0, 1) := by decide +kernel
theorem dX8_readsCycle_23 : decode cX8_readsCycle 23 = .ok (.invokevirtual 408, 3) := by decide +kernel
theorem dX8_readsCycle_26 : decode cX8_readsCycle 26 = .ok (.ifCond .eq 131, 3) := by decide +kernel
theorem dX8_readsCycle_29 : decode cX8_readsCycle 29 = .ok (.iload_n 3, 1) := by decide +kernel
theorem dX8_readsCycle_30 : decode cX8_readsCycle 30 = .ok (.iconst (-1), 1) := by decide +kernel
theorem dX8_readsCycle_31 : decode cX8_readsCycle 31 = .ok (.if_icmp .eq 11, 3) := by decide +kernel
theorem dX8_readsCycle_34 : decode cX8_readsCycle 34 = .ok (.aload_n 0, 1) := by decide +kernel
theorem dX8_readsCycle_35 : decode cX8_readsCycle 35 = .ok (.getfield 421, 3) := by decide +kernel
theorem dX8_readsCycle_38 : decode cX8_readsCycle 38 = .ok (.iconst 2, 1) := by decide +kernel
theorem dX8_readsCycle_39 : decode cX8_readsCycle 39 = .ok (.if_icmp .ne 118, 3) := by decide +kernel
theorem dX8_readsCycle_42 : decode cX8_readsCycle 42 = .ok (.aload_n 0, 1) := by decide +kernel
theorem dX8_readsCycle_43 : decode cX8_readsCycle 43 = .ok (.aload_n 0, 1) := by decide +kernel
theorem dX8_readsCycle_44 : decode cX8_readsCycle 44 = .ok (.getfield 421, 3) := by decide +kernel
theorem dX8_readsCycle_47 : decode cX8_readsCycle 47 = .ok (.iconst 2, 1) := by decide +kernel
theorem dX8_readsCycle_48 : decode cX8_readsCycle 48 = .ok (.if_icmp .ne 7, 3) := by decide +kernel
theorem dX8_readsCycle_51 : decode cX8_readsCycle 51 = .ok (.iconst 1, 1) := by decide +kernel
theorem dX8_readsCycle_52 : decode cX8_readsCycle 52 = .ok (.goto 4, 3) := by decide +kernel
theorem dX8_readsCycle_55 : decode cX8_readsCycle 55 = .ok (.iconst 0, 1) := by decide +kernel
theorem dX8_readsCycle_56 : decode cX8_readsCycle 56 = .ok (.iconst 2, 1) := by decide +kernel
theorem dX8_readsCycle_57 : decode cX8_readsCycle 57 = .ok (.invokevirtual 453, 3) := by decide +kernel
theorem dX8_readsCycle_60 : decode cX8_readsCycle 60 = .ok (.aload_n 0, 1) := by decide +kernel
theorem dX8_readsCycle_61 : decode cX8_readsCycle 61 = .ok (.aload_n 0, 1) := by decide +kernel
theorem dX8_readsCycle_62 : decode cX8_readsCycle 62 = .ok (.getfield 432, 3) := by decide +kernel
theorem dX8_readsCycle_65 : decode cX8_readsCycle 65 = .ok (.aload_n 0, 1) := by decide +kernel
theorem dX8_readsCycle_66 : decode cX8_readsCycle 66 = .ok (.getfield 466, 3) := by decide +kernel
theorem dX8_readsCycle_69 : decode cX8_readsCycle 69 = .ok (.if_icmp .ge 7, 3) := by decide +kernel
theorem dX8_readsCycle_72 : decode cX8_readsCycle 72 = .ok (.iconst 1, 1) := by decide +kernel
theorem dX8_readsCycle_73 : decode cX8_readsCycle 73 = .ok (.goto 4, 3) := by decide +kernel
theorem dX8_readsCycle_76 : decode cX8_readsCycle 76 = .ok (.iconst 0, 1) := by decide +kernel
theorem dX8_readsCycle_77 : decode cX8_readsCycle 77 = .ok (.iconst 3, 1) := by decide +kernel
theorem dX8_readsCycle_78 : decode cX8_readsCycle 78 = .ok (.invokevirtual 453, 3) := by decide +kernel
theorem dX8_readsCycle_81 : decode cX8_readsCycle 81 = .ok (.aload_n 0, 1) := by decide +kernel
theorem dX8_readsCycle_82 : decode cX8_readsCycle 82 = .ok (.iload_n 2, 1) := by decide +kernel
theorem dX8_readsCycle_83 : decode cX8_readsCycle 83 = .ok (.aload_n 0, 1) := by decide +kernel
theorem dX8_readsCycle_84 : decode cX8_readsCycle 84 = .ok (.getfield 432, 3) := by decide +kernel
theorem dX8_readsCycle_87 : decode cX8_readsCycle 87 = .ok (.invokestatic 157, 3) := by decide +kernel
theorem dX8_readsCycle_90 : decode cX8_readsCycle 90 = .ok (.ifCond .ne 7, 3) := by decide +kernel
theorem dX8_readsCycle_93 : decode cX8_readsCycle 93 = .ok (.iconst 1, 1) := by decide +kernel
theorem dX8_readsCycle_94 : decode cX8_readsCycle 94 = .ok (.goto 4, 3) := by decide +kernel
theorem dX8_readsCycle_97 : decode cX8_readsCycle 97 = .ok (.iconst 0, 1) := by decide +kernel
theorem dX8_readsCycle_98 : decode cX8_readsCycle 98 = .ok (.iconst 4, 1) := by decide +kernel
theorem dX8_readsCycle_99 : decode cX8_readsCycle 99 = .ok (.invokevirtual 453, 3) := by decide +kernel
theorem dX8_readsCycle_102 : decode cX8_readsCycle 102 = .ok (.aload_n 0, 1) := by decide +kernel
theorem dX8_readsCycle_103 : decode cX8_readsCycle 103 = .ok (.invokevirtual 408, 3) := by decide +kernel
theorem dX8_readsCycle_106 : decode cX8_readsCycle 106 = .ok (.ifCond .ne 5, 3) := by decide +kernel
theorem dX8_readsCycle_109 : decode cX8_readsCycle 109 = .ok (.iload_n 2, 1) := by decide +kernel
theorem dX8_readsCycle_110 : decode cX8_readsCycle 110 = .ok (.ireturn, 1) := by decide +kernel
theorem dX8_readsCycle_111 : decode cX8_readsCycle 111 = .ok (.iload_n 2, 1) := by decide +kernel
theorem dX8_readsCycle_112 : decode cX8_readsCycle 112 = .ok (.iconst 1, 1) := by decide +kernel
theorem dX8_readsCycle_113 : decode cX8_readsCycle 113 = .ok (.aload_n 0, 1) := by decide +kernel
theorem dX8_readsCycle_114 : decode cX8_readsCycle 114 = .ok (.getfield 432, 3) := by decide +kernel
theorem dX8_readsCycle_117 : decode cX8_readsCycle 117 = .ok (.ishl, 1) := by decide +kernel
theorem dX8_readsCycle_118 : decode cX8_readsCycle 118 = .ok (.ior, 1) := by decide +kernel
theorem dX8_readsCycle_119 : decode cX8_readsCycle 119 = .ok (.istore_n 2, 1) := by decide +kernel
theorem dX8_readsCycle_120 : decode cX8_readsCycle 120 = .ok (.iload_n 3, 1) := by decide +kernel
theorem dX8_readsCycle_121 : decode cX8_readsCycle 121 = .ok (.iconst (-1), 1) := by decide +kernel
theorem dX8_readsCycle_122 : decode cX8_readsCycle 122 = .ok (.if_icmp .ne 11, 3) := by decide +kernel
theorem dX8_readsCycle_125 : decode cX8_readsCycle 125 = .ok (.aload_n 0, 1) := by decide +kernel
theorem dX8_readsCycle_126 : decode cX8_readsCycle 126 = .ok (.getfield 432, 3) := by decide +kernel
theorem dX8_readsCycle_129 : decode cX8_readsCycle 129 = .ok (.istore_n 3, 1) := by decide +kernel
theorem dX8_readsCycle_130 : decode cX8_readsCycle 130 = .ok (.goto 14, 3) := by decide +kernel
theorem dX8_readsCycle_133 : decode cX8_readsCycle 133 = .ok (.aload_n 0, 1) := by decide +kernel
theorem dX8_readsCycle_134 : decode cX8_readsCycle 134 = .ok (.getfield 22, 3) := by decide +kernel
theorem dX8_readsCycle_137 : decode cX8_readsCycle 137 = .ok (.iload 4, 2) := by decide +kernel
theorem dX8_readsCycle_139 : decode cX8_readsCycle 139 = .ok (.aload_n 0, 1) := by decide +kernel
theorem dX8_readsCycle_140 : decode cX8_readsCycle 140 = .ok (.getfield 432, 3) := by decide +kernel
theorem dX8_readsCycle_143 : decode cX8_readsCycle 143 = .ok (.iastore, 1) := by decide +kernel
theorem dX8_readsCycle_144 : decode cX8_readsCycle 144 = .ok (.aload_n 0, 1) := by decide +kernel
theorem dX8_readsCycle_145 : decode cX8_readsCycle 145 = .ok (.getfield 432, 3) := by decide +kernel
theorem dX8_readsCycle_148 : decode cX8_readsCycle 148 = .ok (.istore 4, 2) := by decide +kernel
theorem dX8_readsCycle_150 : decode cX8_readsCycle 150 = .ok (.aload_n 0, 1) := by decide +kernel
theorem dX8_readsCycle_151 : decode cX8_readsCycle 151 = .ok (.invokevirtual 441, 3) := by decide +kernel
theorem dX8_readsCycle_154 : decode cX8_readsCycle 154 = .ok (.goto (-132), 3) := by decide +kernel
theorem dX8_readsCycle_157 : decode cX8_readsCycle 157 = .ok (.aload_n 0, 1) := by decide +kernel
theorem dX8_readsCycle_158 : decode cX8_readsCycle 158 = .ok (.invokevirtual 408, 3) := by decide +kernel
theorem dX8_readsCycle_161 : decode cX8_readsCycle 161 = .ok (.ifCond .eq 11, 3) := by decide +kernel
theorem dX8_readsCycle_164 : decode cX8_readsCycle 164 = .ok (.aload_n 0, 1) := by decide +kernel
theorem dX8_readsCycle_165 : decode cX8_readsCycle 165 = .ok (.getfield 22, 3) := by decide +kernel
theorem dX8_readsCycle_168 : decode cX8_readsCycle 168 = .ok (.iload 4, 2) := by decide +kernel
theorem dX8_readsCycle_170 : decode cX8_readsCycle 170 = .ok (.iload_n 3, 1) := by decide +kernel
theorem dX8_readsCycle_171 : decode cX8_readsCycle 171 = .ok (.iastore, 1) := by decide +kernel
theorem dX8_readsCycle_172 : decode cX8_readsCycle 172 = .ok (.aload_n 0, 1) := by decide +kernel
theorem dX8_readsCycle_173 : decode cX8_readsCycle 173 = .ok (.aload_n 0, 1) := by decide +kernel
theorem dX8_readsCycle_174 : decode cX8_readsCycle 174 = .ok (.bipush 41, 2) := by decide +kernel
theorem dX8_readsCycle_176 : decode cX8_readsCycle 176 = .ok (.invokevirtual 471, 3) := by decide +kernel
theorem dX8_readsCycle_179 : decode cX8_readsCycle 179 = .ok (.iconst 2, 1) := by decide +kernel
theorem dX8_readsCycle_180 : decode cX8_readsCycle 180 = .ok (.invokevirtual 453, 3) := by decide +kernel
theorem dX8_readsCycle_183 : decode cX8_readsCycle 183 = .ok (.aload_n 0, 1) := by decide +kernel
theorem dX8_readsCycle_184 : decode cX8_readsCycle 184 = .ok (.invokevirtual 457, 3) := by decide +kernel
theorem dX8_readsCycle_187 : decode cX8_readsCycle 187 = .ok (.iload_n 2, 1) := by decide +kernel
theorem dX8_readsCycle_188 : decode cX8_readsCycle 188 = .ok (.ireturn, 1) := by decide +kernel
theorem dX8_readsMove_0 : decode cX8_readsMove 0 = .ok (.aload_n 0, 1) := by decide +kernel
theorem dX8_readsMove_1 : decode cX8_readsMove 1 = .ok (.invokevirtual 474, 3) := by decide +kernel
theorem dX8_readsMove_4 : decode cX8_readsMove 4 = .ok (.aload_n 0, 1) := by decide +kernel
theorem dX8_readsMove_5 : decode cX8_readsMove 5 = .ok (.iconst 0, 1) := by decide +kernel
theorem dX8_readsMove_6 : decode cX8_readsMove 6 = .ok (.invokevirtual 477, 3) := by decide +kernel
theorem dX8_readsMove_9 : decode cX8_readsMove 9 = .ok (.istore_n 1, 1) := by decide +kernel
theorem dX8_readsMove_10 : decode cX8_readsMove 10 = .ok (.aload_n 0, 1) := by decide +kernel
theorem dX8_readsMove_11 : decode cX8_readsMove 11 = .ok (.bipush 40, 2) := by decide +kernel
theorem dX8_readsMove_13 : decode cX8_readsMove 13 = .ok (.invokevirtual 471, 3) := by decide +kernel
theorem dX8_readsMove_16 : decode cX8_readsMove 16 = .ok (.ifCond .eq 12, 3) := by decide +kernel
theorem dX8_readsMove_19 : decode cX8_readsMove 19 = .ok (.aload_n 0, 1) := by decide +kernel
theorem dX8_readsMove_20 : decode cX8_readsMove 20 = .ok (.iload_n 1, 1) := by decide +kernel
theorem dX8_readsMove_21 : decode cX8_readsMove 21 = .ok (.invokevirtual 477, 3) := by decide +kernel
theorem dX8_readsMove_24 : decode cX8_readsMove 24 = .ok (.istore_n 1, 1) := by decide +kernel
theorem dX8_readsMove_25 : decode cX8_readsMove 25 = .ok (.goto (-15), 3) := by decide +kernel
theorem dX8_readsMove_28 : decode cX8_readsMove 28 = .ok (.return_, 1) := by decide +kernel
theorem dX8_readsItem_0 : decode cX8_readsItem 0 = .ok (.aload_n 0, 1) := by decide +kernel
theorem dX8_readsItem_1 : decode cX8_readsItem 1 = .ok (.aload_n 0, 1) := by decide +kernel
theorem dX8_readsItem_2 : decode cX8_readsItem 2 = .ok (.invokevirtual 460, 3) := by decide +kernel
theorem dX8_readsItem_5 : decode cX8_readsItem 5 = .ok (.iconst 2, 1) := by decide +kernel
theorem dX8_readsItem_6 : decode cX8_readsItem 6 = .ok (.invokevirtual 453, 3) := by decide +kernel
theorem dX8_readsItem_9 : decode cX8_readsItem 9 = .ok (.aload_n 0, 1) := by decide +kernel
theorem dX8_readsItem_10 : decode cX8_readsItem 10 = .ok (.invokevirtual 463, 3) := by decide +kernel
theorem dX8_readsItem_13 : decode cX8_readsItem 13 = .ok (.istore_n 1, 1) := by decide +kernel
theorem dX8_readsItem_14 : decode cX8_readsItem 14 = .ok (.aload_n 0, 1) := by decide +kernel
theorem dX8_readsItem_15 : decode cX8_readsItem 15 = .ok (.iload_n 1, 1) := by decide +kernel
theorem dX8_readsItem_16 : decode cX8_readsItem 16 = .ok (.iconst (-1), 1) := by decide +kernel
theorem dX8_readsItem_17 : decode cX8_readsItem 17 = .ok (.if_icmp .eq 7, 3) := by decide +kernel
theorem dX8_readsItem_20 : decode cX8_readsItem 20 = .ok (.iconst 1, 1) := by decide +kernel
theorem dX8_readsItem_21 : decode cX8_readsItem 21 = .ok (.goto 4, 3) := by decide +kernel
theorem dX8_readsItem_24 : decode cX8_readsItem 24 = .ok (.iconst 0, 1) := by decide +kernel
theorem dX8_readsItem_25 : decode cX8_readsItem 25 = .ok (.iconst 4, 1) := by decide +kernel
theorem dX8_readsItem_26 : decode cX8_readsItem 26 = .ok (.invokevirtual 453, 3) := by decide +kernel
theorem dX8_readsItem_29 : decode cX8_readsItem 29 = .ok (.aload_n 0, 1) := by decide +kernel
theorem dX8_readsItem_30 : decode cX8_readsItem 30 = .ok (.invokevirtual 408, 3) := by decide +kernel
theorem dX8_readsItem_33 : decode cX8_readsItem 33 = .ok (.ifCond .ne 4, 3) := by decide +kernel
theorem dX8_readsItem_36 : decode cX8_readsItem 36 = .ok (.return_, 1) := by decide +kernel
theorem dX8_readsItem_37 : decode cX8_readsItem 37 = .ok (.aload_n 0, 1) := by decide +kernel
theorem dX8_readsItem_38 : decode cX8_readsItem 38 = .ok (.invokevirtual 441, 3) := by decide +kernel
theorem dX8_readsItem_41 : decode cX8_readsItem 41 = .ok (.aload_n 0, 1) := by decide +kernel
theorem dX8_readsItem_42 : decode cX8_readsItem 42 = .ok (.getfield 93, 3) := by decide +kernel
theorem dX8_readsItem_45 : decode cX8_readsItem 45 = .ok (.bipush 10, 2) := by decide +kernel
theorem dX8_readsItem_47 : decode cX8_readsItem 47 = .ok (.iload_n 1, 1) := by decide +kernel
theorem dX8_readsItem_48 : decode cX8_readsItem 48 = .ok (.imul, 1) := by decide +kernel
theorem dX8_readsItem_49 : decode cX8_readsItem 49 = .ok (.aload_n 0, 1) := by decide +kernel
theorem dX8_readsItem_50 : decode cX8_readsItem 50 = .ok (.getfield 16, 3) := by decide +kernel
theorem dX8_readsItem_53 : decode cX8_readsItem 53 = .ok (.iconst 0, 1) := by decide +kernel
theorem dX8_readsItem_54 : decode cX8_readsItem 54 = .ok (.invokestatic 100, 3) := by decide +kernel
theorem dX8_readsItem_57 : decode cX8_readsItem 57 = .ok (.aload_n 0, 1) := by decide +kernel
theorem dX8_readsItem_58 : decode cX8_readsItem 58 = .ok (.getfield 16, 3) := by decide +kernel
theorem dX8_readsItem_61 : decode cX8_readsItem 61 = .ok (.iconst 0, 1) := by decide +kernel
theorem dX8_readsItem_62 : decode cX8_readsItem 62 = .ok (.aload_n 0, 1) := by decide +kernel
theorem dX8_readsItem_63 : decode cX8_readsItem 63 = .ok (.getfield 19, 3) := by decide +kernel
theorem dX8_readsItem_66 : decode cX8_readsItem 66 = .ok (.iconst 0, 1) := by decide +kernel
theorem dX8_readsItem_67 : decode cX8_readsItem 67 = .ok (.invokestatic 100, 3) := by decide +kernel
theorem dX8_readsItem_70 : decode cX8_readsItem 70 = .ok (.aload_n 0, 1) := by decide +kernel
theorem dX8_readsItem_71 : decode cX8_readsItem 71 = .ok (.bipush 39, 2) := by decide +kernel
theorem dX8_readsItem_73 : decode cX8_readsItem 73 = .ok (.invokevirtual 471, 3) := by decide +kernel
theorem dX8_readsItem_76 : decode cX8_readsItem 76 = .ok (.ifCond .eq 18, 3) := by decide +kernel
theorem dX8_readsItem_79 : decode cX8_readsItem 79 = .ok (.aload_n 0, 1) := by decide +kernel
theorem dX8_readsItem_80 : decode cX8_readsItem 80 = .ok (.getfield 16, 3) := by decide +kernel
theorem dX8_readsItem_83 : decode cX8_readsItem 83 = .ok (.aload_n 0, 1) := by decide +kernel
theorem dX8_readsItem_84 : decode cX8_readsItem 84 = .ok (.getfield 19, 3) := by decide +kernel
theorem dX8_readsItem_87 : decode cX8_readsItem 87 = .ok (.invokestatic 130, 3) := by decide +kernel
theorem dX8_readsItem_90 : decode cX8_readsItem 90 = .ok (.aload_n 0, 1) := by decide +kernel
theorem dX8_readsItem_91 : decode cX8_readsItem 91 = .ok (.invokevirtual 441, 3) := by decide +kernel
theorem dX8_readsItem_94 : decode cX8_readsItem 94 = .ok (.aload_n 0, 1) := by decide +kernel
theorem dX8_readsItem_95 : decode cX8_readsItem 95 = .ok (.getfield 22, 3) := by decide +kernel
theorem dX8_readsItem_98 : decode cX8_readsItem 98 = .ok (.iconst 0, 1) := by decide +kernel
theorem dX8_readsItem_99 : decode cX8_readsItem 99 = .ok (.aload_n 0, 1) := by decide +kernel
theorem dX8_readsItem_100 : decode cX8_readsItem 100 = .ok (.getfield 16, 3) := by decide +kernel
theorem dX8_readsItem_103 : decode cX8_readsItem 103 = .ok (.iconst 0, 1) := by decide +kernel
theorem dX8_readsItem_104 : decode cX8_readsItem 104 = .ok (.invokestatic 100, 3) := by decide +kernel
theorem dX8_readsItem_107 : decode cX8_readsItem 107 = .ok (.aload_n 0, 1) := by decide +kernel
theorem dX8_readsItem_108 : decode cX8_readsItem 108 = .ok (.getfield 16, 3) := by decide +kernel
theorem dX8_readsItem_111 : decode cX8_readsItem 111 = .ok (.aload_n 0, 1) := by decide +kernel
theorem dX8_readsItem_112 : decode cX8_readsItem 112 = .ok (.getfield 19, 3) := by decide +kernel
theorem dX8_readsItem_115 : decode cX8_readsItem 115 = .ok (.aload_n 0, 1) := by decide +kernel
theorem dX8_readsItem_116 : decode cX8_readsItem 116 = .ok (.getfield 22, 3) := by decide +kernel
theorem dX8_readsItem_119 : decode cX8_readsItem 119 = .ok (.invokestatic 138, 3) := by decide +kernel
theorem dX8_readsItem_122 : decode cX8_readsItem 122 = .ok (.return_, 1) := by decide +kernel
theorem dX8_readsWord_0 : decode cX8_readsWord 0 = .ok (.aload_n 0, 1) := by decide +kernel
theorem dX8_readsWord_1 : decode cX8_readsWord 1 = .ok (.invokevirtual 474, 3) := by decide +kernel
theorem dX8_readsWord_4 : decode cX8_readsWord 4 = .ok (.aload_n 0, 1) := by decide +kernel
theorem dX8_readsWord_5 : decode cX8_readsWord 5 = .ok (.invokevirtual 480, 3) := by decide +kernel
theorem dX8_readsWord_8 : decode cX8_readsWord 8 = .ok (.aload_n 0, 1) := by decide +kernel
theorem dX8_readsWord_9 : decode cX8_readsWord 9 = .ok (.invokevirtual 460, 3) := by decide +kernel
theorem dX8_readsWord_12 : decode cX8_readsWord 12 = .ok (.ifCond .eq 10, 3) := by decide +kernel
theorem dX8_readsWord_15 : decode cX8_readsWord 15 = .ok (.aload_n 0, 1) := by decide +kernel
theorem dX8_readsWord_16 : decode cX8_readsWord 16 = .ok (.invokevirtual 480, 3) := by decide +kernel
theorem dX8_readsWord_19 : decode cX8_readsWord 19 = .ok (.goto (-11), 3) := by decide +kernel
theorem dX8_readsWord_22 : decode cX8_readsWord 22 = .ok (.return_, 1) := by decide +kernel
theorem dX8_line_0 : decode cX8_line 0 = .ok (.aload_n 0, 1) := by decide +kernel
theorem dX8_line_1 : decode cX8_line 1 = .ok (.ldc2_w 444, 3) := by decide +kernel
theorem dX8_line_4 : decode cX8_line 4 = .ok (.invokevirtual 483, 3) := by decide +kernel
theorem dX8_line_7 : decode cX8_line 7 = .ok (.ifCond .eq 8, 3) := by decide +kernel
theorem dX8_line_10 : decode cX8_line 10 = .ok (.aload_n 0, 1) := by decide +kernel
theorem dX8_line_11 : decode cX8_line 11 = .ok (.invokevirtual 487, 3) := by decide +kernel
theorem dX8_line_14 : decode cX8_line 14 = .ok (.return_, 1) := by decide +kernel
theorem dX8_line_15 : decode cX8_line 15 = .ok (.aload_n 0, 1) := by decide +kernel
theorem dX8_line_16 : decode cX8_line 16 = .ok (.aload_n 0, 1) := by decide +kernel
theorem dX8_line_17 : decode cX8_line 17 = .ok (.ldc2_w 446, 3) := by decide +kernel
theorem dX8_line_20 : decode cX8_line 20 = .ok (.invokevirtual 483, 3) := by decide +kernel
theorem dX8_line_23 : decode cX8_line 23 = .ok (.ifCond .ne 13, 3) := by decide +kernel
theorem dX8_line_26 : decode cX8_line 26 = .ok (.aload_n 0, 1) := by decide +kernel
theorem dX8_line_27 : decode cX8_line 27 = .ok (.ldc2_w 448, 3) := by decide +kernel
theorem dX8_line_30 : decode cX8_line 30 = .ok (.invokevirtual 483, 3) := by decide +kernel
theorem dX8_line_33 : decode cX8_line 33 = .ok (.ifCond .eq 14, 3) := by decide +kernel
theorem dX8_line_36 : decode cX8_line 36 = .ok (.aload_n 0, 1) := by decide +kernel
theorem dX8_line_37 : decode cX8_line 37 = .ok (.getfield 466, 3) := by decide +kernel
theorem dX8_line_40 : decode cX8_line 40 = .ok (.ifCond .le 7, 3) := by decide +kernel
theorem dX8_line_43 : decode cX8_line 43 = .ok (.iconst 1, 1) := by decide +kernel
theorem dX8_line_44 : decode cX8_line 44 = .ok (.goto 4, 3) := by decide +kernel
theorem dX8_line_47 : decode cX8_line 47 = .ok (.iconst 0, 1) := by decide +kernel
theorem dX8_line_48 : decode cX8_line 48 = .ok (.iconst 2, 1) := by decide +kernel
theorem dX8_line_49 : decode cX8_line 49 = .ok (.invokevirtual 453, 3) := by decide +kernel
theorem dX8_line_52 : decode cX8_line 52 = .ok (.aload_n 0, 1) := by decide +kernel
theorem dX8_line_53 : decode cX8_line 53 = .ok (.invokevirtual 408, 3) := by decide +kernel
theorem dX8_line_56 : decode cX8_line 56 = .ok (.ifCond .ne 4, 3) := by decide +kernel
theorem dX8_line_59 : decode cX8_line 59 = .ok (.return_, 1) := by decide +kernel
theorem dX8_line_60 : decode cX8_line 60 = .ok (.aload_n 0, 1) := by decide +kernel
theorem dX8_line_61 : decode cX8_line 61 = .ok (.ldc2_w 446, 3) := by decide +kernel
theorem dX8_line_64 : decode cX8_line 64 = .ok (.invokevirtual 483, 3) := by decide +kernel
theorem dX8_line_67 : decode cX8_line 67 = .ok (.ifCond .eq 10, 3) := by decide +kernel
theorem dX8_line_70 : decode cX8_line 70 = .ok (.aload_n 0, 1) := by decide +kernel
theorem dX8_line_71 : decode cX8_line 71 = .ok (.invokevirtual 490, 3) := by decide +kernel
theorem dX8_line_74 : decode cX8_line 74 = .ok (.goto 7, 3) := by decide +kernel
theorem dX8_line_77 : decode cX8_line 77 = .ok (.aload_n 0, 1) := by decide +kernel
theorem dX8_line_78 : decode cX8_line 78 = .ok (.invokevirtual 493, 3) := by decide +kernel
theorem dX8_line_81 : decode cX8_line 81 = .ok (.aload_n 0, 1) := by decide +kernel
theorem dX8_line_82 : decode cX8_line 82 = .ok (.invokevirtual 408, 3) := by decide +kernel
theorem dX8_line_85 : decode cX8_line 85 = .ok (.ifCond .eq 22, 3) := by decide +kernel
theorem dX8_line_88 : decode cX8_line 88 = .ok (.aload_n 0, 1) := by decide +kernel
theorem dX8_line_89 : decode cX8_line 89 = .ok (.getfield 22, 3) := by decide +kernel
theorem dX8_line_92 : decode cX8_line 92 = .ok (.iconst 0, 1) := by decide +kernel
theorem dX8_line_93 : decode cX8_line 93 = .ok (.aload_n 0, 1) := by decide +kernel
theorem dX8_line_94 : decode cX8_line 94 = .ok (.getfield 93, 3) := by decide +kernel
theorem dX8_line_97 : decode cX8_line 97 = .ok (.bipush 10, 2) := by decide +kernel
theorem dX8_line_99 : decode cX8_line 99 = .ok (.aload_n 0, 1) := by decide +kernel
theorem dX8_line_100 : decode cX8_line 100 = .ok (.getfield 450, 3) := by decide +kernel
theorem dX8_line_103 : decode cX8_line 103 = .ok (.imul, 1) := by decide +kernel
theorem dX8_line_104 : decode cX8_line 104 = .ok (.invokestatic 100, 3) := by decide +kernel
theorem dX8_line_107 : decode cX8_line 107 = .ok (.aload_n 0, 1) := by decide +kernel
theorem dX8_line_108 : decode cX8_line 108 = .ok (.dup, 1) := by decide +kernel
theorem dX8_line_109 : decode cX8_line 109 = .ok (.getfield 450, 3) := by decide +kernel
theorem dX8_line_112 : decode cX8_line 112 = .ok (.aload_n 0, 1) := by decide +kernel
theorem dX8_line_113 : decode cX8_line 113 = .ok (.invokevirtual 408, 3) := by decide +kernel
theorem dX8_line_116 : decode cX8_line 116 = .ok (.ifCond .eq 7, 3) := by decide +kernel
theorem dX8_line_119 : decode cX8_line 119 = .ok (.iconst 1, 1) := by decide +kernel
theorem dX8_line_120 : decode cX8_line 120 = .ok (.goto 4, 3) := by decide +kernel
theorem dX8_line_123 : decode cX8_line 123 = .ok (.iconst 0, 1) := by decide +kernel
theorem dX8_line_124 : decode cX8_line 124 = .ok (.iadd, 1) := by decide +kernel
theorem dX8_line_125 : decode cX8_line 125 = .ok (.putfield 450, 3) := by decide +kernel
theorem dX8_line_128 : decode cX8_line 128 = .ok (.return_, 1) := by decide +kernel
theorem dX8_load_0 : decode cX8_load 0 = .ok (.aload_n 0, 1) := by decide +kernel
theorem dX8_load_1 : decode cX8_load 1 = .ok (.iload_n 1, 1) := by decide +kernel
theorem dX8_load_2 : decode cX8_load 2 = .ok (.i2l, 1) := by decide +kernel
theorem dX8_load_3 : decode cX8_load 3 = .ok (.lconst 0, 1) := by decide +kernel
theorem dX8_load_4 : decode cX8_load 4 = .ok (.aload_n 0, 1) := by decide +kernel
theorem dX8_load_5 : decode cX8_load 5 = .ok (.getfield 399, 3) := by decide +kernel
theorem dX8_load_8 : decode cX8_load 8 = .ok (.i2l, 1) := by decide +kernel
theorem dX8_load_9 : decode cX8_load 9 = .ok (.invokestatic 114, 3) := by decide +kernel
theorem dX8_load_12 : decode cX8_load 12 = .ok (.ifCond .eq 7, 3) := by decide +kernel
theorem dX8_load_15 : decode cX8_load 15 = .ok (.iconst 0, 1) := by decide +kernel
theorem dX8_load_16 : decode cX8_load 16 = .ok (.goto 4, 3) := by decide +kernel
theorem dX8_load_19 : decode cX8_load 19 = .ok (.iconst 1, 1) := by decide +kernel
theorem dX8_load_20 : decode cX8_load 20 = .ok (.invokevirtual 194, 3) := by decide +kernel
theorem dX8_load_23 : decode cX8_load 23 = .ok (.ifCond .ne 5, 3) := by decide +kernel
theorem dX8_load_26 : decode cX8_load 26 = .ok (.iconst (-1), 1) := by decide +kernel
theorem dX8_load_27 : decode cX8_load 27 = .ok (.ireturn, 1) := by decide +kernel
theorem dX8_load_28 : decode cX8_load 28 = .ok (.aload_n 0, 1) := by decide +kernel
theorem dX8_load_29 : decode cX8_load 29 = .ok (.iload_n 1, 1) := by decide +kernel
theorem dX8_load_30 : decode cX8_load 30 = .ok (.putfield 405, 3) := by decide +kernel
theorem dX8_load_33 : decode cX8_load 33 = .ok (.aload_n 0, 1) := by decide +kernel
theorem dX8_load_34 : decode cX8_load 34 = .ok (.iconst 0, 1) := by decide +kernel
theorem dX8_load_35 : decode cX8_load 35 = .ok (.putfield 414, 3) := by decide +kernel
theorem dX8_load_38 : decode cX8_load 38 = .ok (.aload_n 0, 1) := by decide +kernel
theorem dX8_load_39 : decode cX8_load 39 = .ok (.iconst 0, 1) := by decide +kernel
theorem dX8_load_40 : decode cX8_load 40 = .ok (.putfield 435, 3) := by decide +kernel
theorem dX8_load_43 : decode cX8_load 43 = .ok (.aload_n 0, 1) := by decide +kernel
theorem dX8_load_44 : decode cX8_load 44 = .ok (.iconst 0, 1) := by decide +kernel
theorem dX8_load_45 : decode cX8_load 45 = .ok (.putfield 450, 3) := by decide +kernel
theorem dX8_load_48 : decode cX8_load 48 = .ok (.aload_n 0, 1) := by decide +kernel
theorem dX8_load_49 : decode cX8_load 49 = .ok (.iconst 0, 1) := by decide +kernel
theorem dX8_load_50 : decode cX8_load 50 = .ok (.putfield 466, 3) := by decide +kernel
theorem dX8_load_53 : decode cX8_load 53 = .ok (.aload_n 0, 1) := by decide +kernel
theorem dX8_load_54 : decode cX8_load 54 = .ok (.invokevirtual 441, 3) := by decide +kernel
theorem dX8_load_57 : decode cX8_load 57 = .ok (.aload_n 0, 1) := by decide +kernel
theorem dX8_load_58 : decode cX8_load 58 = .ok (.invokevirtual 408, 3) := by decide +kernel
theorem dX8_load_61 : decode cX8_load 61 = .ok (.ifCond .eq 32, 3) := by decide +kernel
theorem dX8_load_64 : decode cX8_load 64 = .ok (.aload_n 0, 1) := by decide +kernel
theorem dX8_load_65 : decode cX8_load 65 = .ok (.getfield 421, 3) := by decide +kernel
theorem dX8_load_68 : decode cX8_load 68 = .ok (.ifCond .eq 25, 3) := by decide +kernel
theorem dX8_load_71 : decode cX8_load 71 = .ok (.aload_n 0, 1) := by decide +kernel
theorem dX8_load_72 : decode cX8_load 72 = .ok (.invokevirtual 496, 3) := by decide +kernel
theorem dX8_load_75 : decode cX8_load 75 = .ok (.aload_n 0, 1) := by decide +kernel
theorem dX8_load_76 : decode cX8_load 76 = .ok (.aload_n 0, 1) := by decide +kernel
theorem dX8_load_77 : decode cX8_load 77 = .ok (.bipush 59, 2) := by decide +kernel
theorem dX8_load_79 : decode cX8_load 79 = .ok (.invokevirtual 471, 3) := by decide +kernel
theorem dX8_load_82 : decode cX8_load 82 = .ok (.iconst 2, 1) := by decide +kernel
theorem dX8_load_83 : decode cX8_load 83 = .ok (.invokevirtual 453, 3) := by decide +kernel
theorem dX8_load_86 : decode cX8_load 86 = .ok (.aload_n 0, 1) := by decide +kernel
theorem dX8_load_87 : decode cX8_load 87 = .ok (.invokevirtual 457, 3) := by decide +kernel
theorem dX8_load_90 : decode cX8_load 90 = .ok (.goto (-33), 3) := by decide +kernel
theorem dX8_load_93 : decode cX8_load 93 = .ok (.aload_n 0, 1) := by decide +kernel
theorem dX8_load_94 : decode cX8_load 94 = .ok (.iconst 0, 1) := by decide +kernel
theorem dX8_load_95 : decode cX8_load 95 = .ok (.putfield 399, 3) := by decide +kernel
theorem dX8_load_98 : decode cX8_load 98 = .ok (.aload_n 0, 1) := by decide +kernel
theorem dX8_load_99 : decode cX8_load 99 = .ok (.aload_n 0, 1) := by decide +kernel
theorem dX8_load_100 : decode cX8_load 100 = .ok (.getfield 435, 3) := by decide +kernel
theorem dX8_load_103 : decode cX8_load 103 = .ok (.putfield 82, 3) := by decide +kernel
theorem dX8_load_106 : decode cX8_load 106 = .ok (.aload_n 0, 1) := by decide +kernel
theorem dX8_load_107 : decode cX8_load 107 = .ok (.aload_n 0, 1) := by decide +kernel
theorem dX8_load_108 : decode cX8_load 108 = .ok (.getfield 435, 3) := by decide +kernel
theorem dX8_load_111 : decode cX8_load 111 = .ok (.ifCond .le 10, 3) := by decide +kernel
theorem dX8_load_114 : decode cX8_load 114 = .ok (.aload_n 0, 1) := by decide +kernel
theorem dX8_load_115 : decode cX8_load 115 = .ok (.getfield 438, 3) := by decide +kernel
theorem dX8_load_118 : decode cX8_load 118 = .ok (.goto 4, 3) := by decide +kernel
theorem dX8_load_121 : decode cX8_load 121 = .ok (.iconst (-1), 1) := by decide +kernel
theorem dX8_load_122 : decode cX8_load 122 = .ok (.putfield 86, 3) := by decide +kernel
theorem dX8_load_125 : decode cX8_load 125 = .ok (.aload_n 0, 1) := by decide +kernel
theorem dX8_load_126 : decode cX8_load 126 = .ok (.getfield 435, 3) := by decide +kernel
theorem dX8_load_129 : decode cX8_load 129 = .ok (.ifCond .le 10, 3) := by decide +kernel
theorem dX8_load_132 : decode cX8_load 132 = .ok (.aload_n 0, 1) := by decide +kernel
theorem dX8_load_133 : decode cX8_load 133 = .ok (.bipush 9, 2) := by decide +kernel
theorem dX8_load_135 : decode cX8_load 135 = .ok (.invokevirtual 266, 3) := by decide +kernel
theorem dX8_load_138 : decode cX8_load 138 = .ok (.ireturn, 1) := by decide +kernel
theorem dX8_load_139 : decode cX8_load 139 = .ok (.aload_n 0, 1) := by decide +kernel
theorem dX8_load_140 : decode cX8_load 140 = .ok (.aload_n 0, 1) := by decide +kernel
theorem dX8_load_141 : decode cX8_load 141 = .ok (.getfield 466, 3) := by decide +kernel
theorem dX8_load_144 : decode cX8_load 144 = .ok (.putfield 118, 3) := by decide +kernel
theorem dX8_load_147 : decode cX8_load 147 = .ok (.aload_n 0, 1) := by decide +kernel
theorem dX8_load_148 : decode cX8_load 148 = .ok (.getfield 7, 3) := by decide +kernel
theorem dX8_load_151 : decode cX8_load 151 = .ok (.iconst 0, 1) := by decide +kernel
theorem dX8_load_152 : decode cX8_load 152 = .ok (.aload_n 0, 1) := by decide +kernel
theorem dX8_load_153 : decode cX8_load 153 = .ok (.getfield 450, 3) := by decide +kernel
theorem dX8_load_156 : decode cX8_load 156 = .ok (.iastore, 1) := by decide +kernel
theorem dX8_load_157 : decode cX8_load 157 = .ok (.aload_n 0, 1) := by decide +kernel
theorem dX8_load_158 : decode cX8_load 158 = .ok (.getfield 16, 3) := by decide +kernel
theorem dX8_load_161 : decode cX8_load 161 = .ok (.invokestatic 96, 3) := by decide +kernel
theorem dX8_load_164 : decode cX8_load 164 = .ok (.aload_n 0, 1) := by decide +kernel
theorem dX8_load_165 : decode cX8_load 165 = .ok (.getfield 16, 3) := by decide +kernel
theorem dX8_load_168 : decode cX8_load 168 = .ok (.iconst 0, 1) := by decide +kernel
theorem dX8_load_169 : decode cX8_load 169 = .ok (.aload_n 0, 1) := by decide +kernel
theorem dX8_load_170 : decode cX8_load 170 = .ok (.getfield 7, 3) := by decide +kernel
theorem dX8_load_173 : decode cX8_load 173 = .ok (.iconst 1, 1) := by decide +kernel
theorem dX8_load_174 : decode cX8_load 174 = .ok (.invokestatic 100, 3) := by decide +kernel
theorem dX8_load_177 : decode cX8_load 177 = .ok (.iconst 0, 1) := by decide +kernel
theorem dX8_load_178 : decode cX8_load 178 = .ok (.istore_n 2, 1) := by decide +kernel
theorem dX8_load_179 : decode cX8_load 179 = .ok (.iload_n 2, 1) := by decide +kernel
theorem dX8_load_180 : decode cX8_load 180 = .ok (.bipush 10, 2) := by decide +kernel
theorem dX8_load_182 : decode cX8_load 182 = .ok (.aload_n 0, 1) := by decide +kernel
theorem dX8_load_183 : decode cX8_load 183 = .ok (.getfield 450, 3) := by decide +kernel
theorem dX8_load_186 : decode cX8_load 186 = .ok (.imul, 1) := by decide +kernel
theorem dX8_load_187 : decode cX8_load 187 = .ok (.if_icmp .ge 24, 3) := by decide +kernel
theorem dX8_load_190 : decode cX8_load 190 = .ok (.aload_n 0, 1) := by decide +kernel
theorem dX8_load_191 : decode cX8_load 191 = .ok (.getfield 7, 3) := by decide +kernel
theorem dX8_load_194 : decode cX8_load 194 = .ok (.bipush 11, 2) := by decide +kernel
theorem dX8_load_196 : decode cX8_load 196 = .ok (.iload_n 2, 1) := by decide +kernel
theorem dX8_load_197 : decode cX8_load 197 = .ok (.iadd, 1) := by decide +kernel
theorem dX8_load_198 : decode cX8_load 198 = .ok (.aload_n 0, 1) := by decide +kernel
theorem dX8_load_199 : decode cX8_load 199 = .ok (.getfield 93, 3) := by decide +kernel
theorem dX8_load_202 : decode cX8_load 202 = .ok (.iload_n 2, 1) := by decide +kernel
theorem dX8_load_203 : decode cX8_load 203 = .ok (.iaload, 1) := by decide +kernel
theorem dX8_load_204 : decode cX8_load 204 = .ok (.iastore, 1) := by decide +kernel
theorem dX8_load_205 : decode cX8_load 205 = .ok (.iinc 2 1, 3) := by decide +kernel
theorem dX8_load_208 : decode cX8_load 208 = .ok (.goto (-29), 3) := by decide +kernel
theorem dX8_load_211 : decode cX8_load 211 = .ok (.aload_n 0, 1) := by decide +kernel
theorem dX8_load_212 : decode cX8_load 212 = .ok (.iconst 0, 1) := by decide +kernel
theorem dX8_load_213 : decode cX8_load 213 = .ok (.putfield 121, 3) := by decide +kernel
theorem dX8_load_216 : decode cX8_load 216 = .ok (.aload_n 0, 1) := by decide +kernel
theorem dX8_load_217 : decode cX8_load 217 = .ok (.iconst 0, 1) := by decide +kernel
theorem dX8_load_218 : decode cX8_load 218 = .ok (.putfield 171, 3) := by decide +kernel
theorem dX8_load_221 : decode cX8_load 221 = .ok (.aload_n 0, 1) := by decide +kernel
theorem dX8_load_222 : decode cX8_load 222 = .ok (.getfield 450, 3) := by decide +kernel
theorem dX8_load_225 : decode cX8_load 225 = .ok (.ireturn, 1) := by decide +kernel
theorem dX8_fault_0 : decode cX8_fault 0 = .ok (.aload_n 0, 1) := by decide +kernel
theorem dX8_fault_1 : decode cX8_fault 1 = .ok (.iconst 0, 1) := by decide +kernel
theorem dX8_fault_2 : decode cX8_fault 2 = .ok (.putfield 104, 3) := by decide +kernel
theorem dX8_fault_5 : decode cX8_fault 5 = .ok (.iload_n 1, 1) := by decide +kernel
theorem dX8_fault_6 : decode cX8_fault 6 = .ok (.ifCond .ne 10, 3) := by decide +kernel
theorem dX8_fault_9 : decode cX8_fault 9 = .ok (.aload_n 0, 1) := by decide +kernel
theorem dX8_fault_10 : decode cX8_fault 10 = .ok (.getfield 82, 3) := by decide +kernel
theorem dX8_fault_13 : decode cX8_fault 13 = .ok (.goto 16, 3) := by decide +kernel
theorem dX8_fault_16 : decode cX8_fault 16 = .ok (.iload_n 1, 1) := by decide +kernel
theorem dX8_fault_17 : decode cX8_fault 17 = .ok (.iconst 1, 1) := by decide +kernel
theorem dX8_fault_18 : decode cX8_fault 18 = .ok (.if_icmp .ne 10, 3) := by decide +kernel
theorem dX8_fault_21 : decode cX8_fault 21 = .ok (.aload_n 0, 1) := by decide +kernel
theorem dX8_fault_22 : decode cX8_fault 22 = .ok (.getfield 86, 3) := by decide +kernel
theorem dX8_fault_25 : decode cX8_fault 25 = .ok (.goto 4, 3) := by decide +kernel
theorem dX8_fault_28 : decode cX8_fault 28 = .ok (.iconst (-1), 1) := by decide +kernel
theorem dX8_fault_29 : decode cX8_fault 29 = .ok (.ireturn, 1) := by decide +kernel
