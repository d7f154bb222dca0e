theorem dX2_spreadMarks_28 : decode cX2_spreadMarks 28 = .ok (.lload_n 1, 1) := by decide +kernel
theorem dX2_spreadMarks_29 : decode cX2_spreadMarks 29 = .ok (.iload 4, 2) := by decide +kernel
theorem dX2_spreadMarks_31 : decode cX2_spreadMarks 31 = .ok (.invokestatic 99, 3) := by decide +kernel
theorem dX2_spreadMarks_34 : decode cX2_spreadMarks 34 = .ok (.iaload, 1) := by decide +kernel
theorem dX2_spreadMarks_35 : decode cX2_spreadMarks 35 = .ok (.istore 6, 2) := by decide +kernel
theorem dX2_spreadMarks_37 : decode cX2_spreadMarks 37 = .ok (.aload_n 0, 1) := by decide +kernel
theorem dX2_spreadMarks_38 : decode cX2_spreadMarks 38 = .ok (.getfield 60, 3) := by decide +kernel
theorem dX2_spreadMarks_41 : decode cX2_spreadMarks 41 = .ok (.lload_n 1, 1) := by decide +kernel
theorem dX2_spreadMarks_42 : decode cX2_spreadMarks 42 = .ok (.iload 5, 2) := by decide +kernel
theorem dX2_spreadMarks_44 : decode cX2_spreadMarks 44 = .ok (.invokestatic 99, 3) := by decide +kernel
theorem dX2_spreadMarks_47 : decode cX2_spreadMarks 47 = .ok (.iaload, 1) := by decide +kernel
theorem dX2_spreadMarks_48 : decode cX2_spreadMarks 48 = .ok (.istore 7, 2) := by decide +kernel
theorem dX2_spreadMarks_50 : decode cX2_spreadMarks 50 = .ok (.aload_n 0, 1) := by decide +kernel
theorem dX2_spreadMarks_51 : decode cX2_spreadMarks 51 = .ok (.getfield 60, 3) := by decide +kernel
theorem dX2_spreadMarks_54 : decode cX2_spreadMarks 54 = .ok (.iload 4, 2) := by decide +kernel
theorem dX2_spreadMarks_56 : decode cX2_spreadMarks 56 = .ok (.iaload, 1) := by decide +kernel
theorem dX2_spreadMarks_57 : decode cX2_spreadMarks 57 = .ok (.aload_n 0, 1) := by decide +kernel
theorem dX2_spreadMarks_58 : decode cX2_spreadMarks 58 = .ok (.getfield 60, 3) := by decide +kernel
theorem dX2_spreadMarks_61 : decode cX2_spreadMarks 61 = .ok (.iload 5, 2) := by decide +kernel
theorem dX2_spreadMarks_63 : decode cX2_spreadMarks 63 = .ok (.iaload, 1) := by decide +kernel
theorem dX2_spreadMarks_64 : decode cX2_spreadMarks 64 = .ok (.if_icmp .ne 20, 3) := by decide +kernel
theorem dX2_spreadMarks_67 : decode cX2_spreadMarks 67 = .ok (.iload 6, 2) := by decide +kernel
theorem dX2_spreadMarks_69 : decode cX2_spreadMarks 69 = .ok (.iload 7, 2) := by decide +kernel
theorem dX2_spreadMarks_71 : decode cX2_spreadMarks 71 = .ok (.if_icmp .eq 13, 3) := by decide +kernel
theorem dX2_spreadMarks_74 : decode cX2_spreadMarks 74 = .ok (.aload_n 0, 1) := by decide +kernel
theorem dX2_spreadMarks_75 : decode cX2_spreadMarks 75 = .ok (.iload 6, 2) := by decide +kernel
theorem dX2_spreadMarks_77 : decode cX2_spreadMarks 77 = .ok (.iload 7, 2) := by decide +kernel
theorem dX2_spreadMarks_79 : decode cX2_spreadMarks 79 = .ok (.invokevirtual 156, 3) := by decide +kernel
theorem dX2_spreadMarks_82 : decode cX2_spreadMarks 82 = .ok (.iconst 1, 1) := by decide +kernel
theorem dX2_spreadMarks_83 : decode cX2_spreadMarks 83 = .ok (.istore_n 3, 1) := by decide +kernel
theorem dX2_spreadMarks_84 : decode cX2_spreadMarks 84 = .ok (.iinc 5 1, 3) := by decide +kernel
theorem dX2_spreadMarks_87 : decode cX2_spreadMarks 87 = .ok (.goto (-70), 3) := by decide +kernel
theorem dX2_spreadMarks_90 : decode cX2_spreadMarks 90 = .ok (.iinc 4 1, 3) := by decide +kernel
theorem dX2_spreadMarks_93 : decode cX2_spreadMarks 93 = .ok (.goto (-88), 3) := by decide +kernel
theorem dX2_spreadMarks_96 : decode cX2_spreadMarks 96 = .ok (.iload_n 3, 1) := by decide +kernel
theorem dX2_spreadMarks_97 : decode cX2_spreadMarks 97 = .ok (.ireturn, 1) := by decide +kernel
theorem dX2_replaceMark_0 : decode cX2_replaceMark 0 = .ok (.iconst 0, 1) := by decide +kernel
theorem dX2_replaceMark_1 : decode cX2_replaceMark 1 = .ok (.istore_n 3, 1) := by decide +kernel
theorem dX2_replaceMark_2 : decode cX2_replaceMark 2 = .ok (.iload_n 3, 1) := by decide +kernel
theorem dX2_replaceMark_3 : decode cX2_replaceMark 3 = .ok (.aload_n 0, 1) := by decide +kernel
theorem dX2_replaceMark_4 : decode cX2_replaceMark 4 = .ok (.getfield 9, 3) := by decide +kernel
theorem dX2_replaceMark_7 : decode cX2_replaceMark 7 = .ok (.if_icmp .ge 26, 3) := by decide +kernel
theorem dX2_replaceMark_10 : decode cX2_replaceMark 10 = .ok (.aload_n 0, 1) := by decide +kernel
theorem dX2_replaceMark_11 : decode cX2_replaceMark 11 = .ok (.getfield 60, 3) := by decide +kernel
theorem dX2_replaceMark_14 : decode cX2_replaceMark 14 = .ok (.iload_n 3, 1) := by decide +kernel
theorem dX2_replaceMark_15 : decode cX2_replaceMark 15 = .ok (.iaload, 1) := by decide +kernel
theorem dX2_replaceMark_16 : decode cX2_replaceMark 16 = .ok (.iload_n 1, 1) := by decide +kernel
theorem dX2_replaceMark_17 : decode cX2_replaceMark 17 = .ok (.if_icmp .ne 10, 3) := by decide +kernel
theorem dX2_replaceMark_20 : decode cX2_replaceMark 20 = .ok (.aload_n 0, 1) := by decide +kernel
theorem dX2_replaceMark_21 : decode cX2_replaceMark 21 = .ok (.getfield 60, 3) := by decide +kernel
theorem dX2_replaceMark_24 : decode cX2_replaceMark 24 = .ok (.iload_n 3, 1) := by decide +kernel
theorem dX2_replaceMark_25 : decode cX2_replaceMark 25 = .ok (.iload_n 2, 1) := by decide +kernel
theorem dX2_replaceMark_26 : decode cX2_replaceMark 26 = .ok (.iastore, 1) := by decide +kernel
theorem dX2_replaceMark_27 : decode cX2_replaceMark 27 = .ok (.iinc 3 1, 3) := by decide +kernel
theorem dX2_replaceMark_30 : decode cX2_replaceMark 30 = .ok (.goto (-28), 3) := by decide +kernel
theorem dX2_replaceMark_33 : decode cX2_replaceMark 33 = .ok (.return_, 1) := by decide +kernel
theorem dX2_sizeBy_0 : decode cX2_sizeBy 0 = .ok (.iload_n 1, 1) := by decide +kernel
theorem dX2_sizeBy_1 : decode cX2_sizeBy 1 = .ok (.aload_n 0, 1) := by decide +kernel
theorem dX2_sizeBy_2 : decode cX2_sizeBy 2 = .ok (.invokevirtual 75, 3) := by decide +kernel
theorem dX2_sizeBy_5 : decode cX2_sizeBy 5 = .ok (.iand, 1) := by decide +kernel
theorem dX2_sizeBy_6 : decode cX2_sizeBy 6 = .ok (.istore_n 2, 1) := by decide +kernel
theorem dX2_sizeBy_7 : decode cX2_sizeBy 7 = .ok (.aload_n 0, 1) := by decide +kernel
theorem dX2_sizeBy_8 : decode cX2_sizeBy 8 = .ok (.getfield 38, 3) := by decide +kernel
theorem dX2_sizeBy_11 : decode cX2_sizeBy 11 = .ok (.iload_n 2, 1) := by decide +kernel
theorem dX2_sizeBy_12 : decode cX2_sizeBy 12 = .ok (.iaload, 1) := by decide +kernel
theorem dX2_sizeBy_13 : decode cX2_sizeBy 13 = .ok (.ifCond .ne 33, 3) := by decide +kernel
theorem dX2_sizeBy_16 : decode cX2_sizeBy 16 = .ok (.aload_n 0, 1) := by decide +kernel
theorem dX2_sizeBy_17 : decode cX2_sizeBy 17 = .ok (.getfield 32, 3) := by decide +kernel
theorem dX2_sizeBy_20 : decode cX2_sizeBy 20 = .ok (.aload_n 0, 1) := by decide +kernel
theorem dX2_sizeBy_21 : decode cX2_sizeBy 21 = .ok (.getfield 18, 3) := by decide +kernel
theorem dX2_sizeBy_24 : decode cX2_sizeBy 24 = .ok (.iload_n 2, 1) := by decide +kernel
theorem dX2_sizeBy_25 : decode cX2_sizeBy 25 = .ok (.aload_n 0, 1) := by decide +kernel
theorem dX2_sizeBy_26 : decode cX2_sizeBy 26 = .ok (.getfield 9, 3) := by decide +kernel
theorem dX2_sizeBy_29 : decode cX2_sizeBy 29 = .ok (.invokevirtual 79, 3) := by decide +kernel
theorem dX2_sizeBy_32 : decode cX2_sizeBy 32 = .ok (.pop, 1) := by decide +kernel
theorem dX2_sizeBy_33 : decode cX2_sizeBy 33 = .ok (.aload_n 0, 1) := by decide +kernel
theorem dX2_sizeBy_34 : decode cX2_sizeBy 34 = .ok (.getfield 38, 3) := by decide +kernel
theorem dX2_sizeBy_37 : decode cX2_sizeBy 37 = .ok (.iload_n 2, 1) := by decide +kernel
theorem dX2_sizeBy_38 : decode cX2_sizeBy 38 = .ok (.aload_n 0, 1) := by decide +kernel
theorem dX2_sizeBy_39 : decode cX2_sizeBy 39 = .ok (.getfield 32, 3) := by decide +kernel
theorem dX2_sizeBy_42 : decode cX2_sizeBy 42 = .ok (.invokevirtual 92, 3) := by decide +kernel
theorem dX2_sizeBy_45 : decode cX2_sizeBy 45 = .ok (.iastore, 1) := by decide +kernel
theorem dX2_sizeBy_46 : decode cX2_sizeBy 46 = .ok (.aload_n 0, 1) := by decide +kernel
theorem dX2_sizeBy_47 : decode cX2_sizeBy 47 = .ok (.getfield 38, 3) := by decide +kernel
theorem dX2_sizeBy_50 : decode cX2_sizeBy 50 = .ok (.iload_n 2, 1) := by decide +kernel
theorem dX2_sizeBy_51 : decode cX2_sizeBy 51 = .ok (.iaload, 1) := by decide +kernel
theorem dX2_sizeBy_52 : decode cX2_sizeBy 52 = .ok (.ireturn, 1) := by decide +kernel
theorem dX2_countInBoth_0 : decode cX2_countInBoth 0 = .ok (.aload_n 0, 1) := by decide +kernel
theorem dX2_countInBoth_1 : decode cX2_countInBoth 1 = .ok (.getfield 32, 3) := by decide +kernel
theorem dX2_countInBoth_4 : decode cX2_countInBoth 4 = .ok (.aload_n 0, 1) := by decide +kernel
theorem dX2_countInBoth_5 : decode cX2_countInBoth 5 = .ok (.getfield 18, 3) := by decide +kernel
theorem dX2_countInBoth_8 : decode cX2_countInBoth 8 = .ok (.iload_n 1, 1) := by decide +kernel
theorem dX2_countInBoth_9 : decode cX2_countInBoth 9 = .ok (.aload_n 0, 1) := by decide +kernel
theorem dX2_countInBoth_10 : decode cX2_countInBoth 10 = .ok (.getfield 9, 3) := by decide +kernel
theorem dX2_countInBoth_13 : decode cX2_countInBoth 13 = .ok (.invokevirtual 79, 3) := by decide +kernel
theorem dX2_countInBoth_16 : decode cX2_countInBoth 16 = .ok (.pop, 1) := by decide +kernel
theorem dX2_countInBoth_17 : decode cX2_countInBoth 17 = .ok (.aload_n 0, 1) := by decide +kernel
theorem dX2_countInBoth_18 : decode cX2_countInBoth 18 = .ok (.getfield 35, 3) := by decide +kernel
theorem dX2_countInBoth_21 : decode cX2_countInBoth 21 = .ok (.aload_n 0, 1) := by decide +kernel
theorem dX2_countInBoth_22 : decode cX2_countInBoth 22 = .ok (.getfield 18, 3) := by decide +kernel
theorem dX2_countInBoth_25 : decode cX2_countInBoth 25 = .ok (.iload_n 2, 1) := by decide +kernel
theorem dX2_countInBoth_26 : decode cX2_countInBoth 26 = .ok (.aload_n 0, 1) := by decide +kernel
theorem dX2_countInBoth_27 : decode cX2_countInBoth 27 = .ok (.getfield 9, 3) := by decide +kernel
theorem dX2_countInBoth_30 : decode cX2_countInBoth 30 = .ok (.invokevirtual 79, 3) := by decide +kernel
theorem dX2_countInBoth_33 : decode cX2_countInBoth 33 = .ok (.pop, 1) := by decide +kernel
theorem dX2_countInBoth_34 : decode cX2_countInBoth 34 = .ok (.aload_n 0, 1) := by decide +kernel
theorem dX2_countInBoth_35 : decode cX2_countInBoth 35 = .ok (.invokevirtual 119, 3) := by decide +kernel
theorem dX2_countInBoth_38 : decode cX2_countInBoth 38 = .ok (.astore_n 3, 1) := by decide +kernel
theorem dX2_countInBoth_39 : decode cX2_countInBoth 39 = .ok (.iconst 0, 1) := by decide +kernel
theorem dX2_countInBoth_40 : decode cX2_countInBoth 40 = .ok (.istore 4, 2) := by decide +kernel
theorem dX2_countInBoth_42 : decode cX2_countInBoth 42 = .ok (.iconst 0, 1) := by decide +kernel
theorem dX2_countInBoth_43 : decode cX2_countInBoth 43 = .ok (.istore 5, 2) := by decide +kernel
theorem dX2_countInBoth_45 : decode cX2_countInBoth 45 = .ok (.iload 5, 2) := by decide +kernel
theorem dX2_countInBoth_47 : decode cX2_countInBoth 47 = .ok (.aload_n 3, 1) := by decide +kernel
theorem dX2_countInBoth_48 : decode cX2_countInBoth 48 = .ok (.getfield 160, 3) := by decide +kernel
theorem dX2_countInBoth_51 : decode cX2_countInBoth 51 = .ok (.if_icmp .ge 44, 3) := by decide +kernel
theorem dX2_countInBoth_54 : decode cX2_countInBoth 54 = .ok (.aload_n 3, 1) := by decide +kernel
theorem dX2_countInBoth_55 : decode cX2_countInBoth 55 = .ok (.iload 5, 2) := by decide +kernel
theorem dX2_countInBoth_57 : decode cX2_countInBoth 57 = .ok (.invokevirtual 163, 3) := by decide +kernel
theorem dX2_countInBoth_60 : decode cX2_countInBoth 60 = .ok (.lstore 6, 2) := by decide +kernel
theorem dX2_countInBoth_62 : decode cX2_countInBoth 62 = .ok (.aload_n 0, 1) := by decide +kernel
theorem dX2_countInBoth_63 : decode cX2_countInBoth 63 = .ok (.getfield 32, 3) := by decide +kernel
theorem dX2_countInBoth_66 : decode cX2_countInBoth 66 = .ok (.lload 6, 2) := by decide +kernel
theorem dX2_countInBoth_68 : decode cX2_countInBoth 68 = .ok (.invokevirtual 167, 3) := by decide +kernel
theorem dX2_countInBoth_71 : decode cX2_countInBoth 71 = .ok (.ifCond .eq 18, 3) := by decide +kernel
theorem dX2_countInBoth_74 : decode cX2_countInBoth 74 = .ok (.aload_n 0, 1) := by decide +kernel
theorem dX2_countInBoth_75 : decode cX2_countInBoth 75 = .ok (.getfield 35, 3) := by decide +kernel
theorem dX2_countInBoth_78 : decode cX2_countInBoth 78 = .ok (.lload 6, 2) := by decide +kernel
theorem dX2_countInBoth_80 : decode cX2_countInBoth 80 = .ok (.invokevirtual 167, 3) := by decide +kernel
theorem dX2_countInBoth_83 : decode cX2_countInBoth 83 = .ok (.ifCond .eq 6, 3) := by decide +kernel
theorem dX2_countInBoth_86 : decode cX2_countInBoth 86 = .ok (.iinc 4 1, 3) := by decide +kernel
theorem dX2_countInBoth_89 : decode cX2_countInBoth 89 = .ok (.iinc 5 1, 3) := by decide +kernel
theorem dX2_countInBoth_92 : decode cX2_countInBoth 92 = .ok (.goto (-47), 3) := by decide +kernel
theorem dX2_countInBoth_95 : decode cX2_countInBoth 95 = .ok (.iload 4, 2) := by decide +kernel
theorem dX2_countInBoth_97 : decode cX2_countInBoth 97 = .ok (.ireturn, 1) := by decide +kernel
theorem dX2_staysTurned_0 : decode cX2_staysTurned 0 = .ok (.aload_n 0, 1) := by decide +kernel
theorem dX2_staysTurned_1 : decode cX2_staysTurned 1 = .ok (.getfield 32, 3) := by decide +kernel
theorem dX2_staysTurned_4 : decode cX2_staysTurned 4 = .ok (.aload_n 0, 1) := by decide +kernel
theorem dX2_staysTurned_5 : decode cX2_staysTurned 5 = .ok (.getfield 18, 3) := by decide +kernel
theorem dX2_staysTurned_8 : decode cX2_staysTurned 8 = .ok (.iload_n 1, 1) := by decide +kernel
theorem dX2_staysTurned_9 : decode cX2_staysTurned 9 = .ok (.aload_n 0, 1) := by decide +kernel
theorem dX2_staysTurned_10 : decode cX2_staysTurned 10 = .ok (.getfield 9, 3) := by decide +kernel
theorem dX2_staysTurned_13 : decode cX2_staysTurned 13 = .ok (.invokevirtual 79, 3) := by decide +kernel
theorem dX2_staysTurned_16 : decode cX2_staysTurned 16 = .ok (.pop, 1) := by decide +kernel
theorem dX2_staysTurned_17 : decode cX2_staysTurned 17 = .ok (.iconst 0, 1) := by decide +kernel
theorem dX2_staysTurned_18 : decode cX2_staysTurned 18 = .ok (.istore_n 2, 1) := by decide +kernel
theorem dX2_staysTurned_19 : decode cX2_staysTurned 19 = .ok (.iload_n 2, 1) := by decide +kernel
theorem dX2_staysTurned_20 : decode cX2_staysTurned 20 = .ok (.aload_n 0, 1) := by decide +kernel
theorem dX2_staysTurned_21 : decode cX2_staysTurned 21 = .ok (.getfield 32, 3) := by decide +kernel
theorem dX2_staysTurned_24 : decode cX2_staysTurned 24 = .ok (.invokevirtual 170, 3) := by decide +kernel
theorem dX2_staysTurned_27 : decode cX2_staysTurned 27 = .ok (.if_icmp .ge 58, 3) := by decide +kernel
theorem dX2_staysTurned_30 : decode cX2_staysTurned 30 = .ok (.iconst 0, 1) := by decide +kernel
theorem dX2_staysTurned_31 : decode cX2_staysTurned 31 = .ok (.istore_n 3, 1) := by decide +kernel
theorem dX2_staysTurned_32 : decode cX2_staysTurned 32 = .ok (.iload_n 3, 1) := by decide +kernel
theorem dX2_staysTurned_33 : decode cX2_staysTurned 33 = .ok (.aload_n 0, 1) := by decide +kernel
theorem dX2_staysTurned_34 : decode cX2_staysTurned 34 = .ok (.getfield 15, 3) := by decide +kernel
theorem dX2_staysTurned_37 : decode cX2_staysTurned 37 = .ok (.if_icmp .ge 42, 3) := by decide +kernel
theorem dX2_staysTurned_40 : decode cX2_staysTurned 40 = .ok (.aload_n 0, 1) := by decide +kernel
theorem dX2_staysTurned_41 : decode cX2_staysTurned 41 = .ok (.getfield 32, 3) := by decide +kernel
theorem dX2_staysTurned_44 : decode cX2_staysTurned 44 = .ok (.aload_n 0, 1) := by decide +kernel
theorem dX2_staysTurned_45 : decode cX2_staysTurned 45 = .ok (.getfield 32, 3) := by decide +kernel
theorem dX2_staysTurned_48 : decode cX2_staysTurned 48 = .ok (.iload_n 2, 1) := by decide +kernel
theorem dX2_staysTurned_49 : decode cX2_staysTurned 49 = .ok (.invokevirtual 173, 3) := by decide +kernel
theorem dX2_staysTurned_52 : decode cX2_staysTurned 52 = .ok (.aload_n 0, 1) := by decide +kernel
theorem dX2_staysTurned_53 : decode cX2_staysTurned 53 = .ok (.getfield 18, 3) := by decide +kernel
theorem dX2_staysTurned_56 : decode cX2_staysTurned 56 = .ok (.iload_n 3, 1) := by decide +kernel
theorem dX2_staysTurned_57 : decode cX2_staysTurned 57 = .ok (.laload, 1) := by decide +kernel
theorem dX2_staysTurned_58 : decode cX2_staysTurned 58 = .ok (.aload_n 0, 1) := by decide +kernel
theorem dX2_staysTurned_59 : decode cX2_staysTurned 59 = .ok (.getfield 9, 3) := by decide +kernel
theorem dX2_staysTurned_62 : decode cX2_staysTurned 62 = .ok (.invokestatic 176, 3) := by decide +kernel
theorem dX2_staysTurned_65 : decode cX2_staysTurned 65 = .ok (.invokevirtual 167, 3) := by decide +kernel
theorem dX2_staysTurned_68 : decode cX2_staysTurned 68 = .ok (.ifCond .ne 5, 3) := by decide +kernel
theorem dX2_staysTurned_71 : decode cX2_staysTurned 71 = .ok (.iconst 0, 1) := by decide +kernel
theorem dX2_staysTurned_72 : decode cX2_staysTurned 72 = .ok (.ireturn, 1) := by decide +kernel
theorem dX2_staysTurned_73 : decode cX2_staysTurned 73 = .ok (.iinc 3 1, 3) := by decide +kernel
theorem dX2_staysTurned_76 : decode cX2_staysTurned 76 = .ok (.goto (-44), 3) := by decide +kernel
theorem dX2_staysTurned_79 : decode cX2_staysTurned 79 = .ok (.iinc 2 1, 3) := by decide +kernel
theorem dX2_staysTurned_82 : decode cX2_staysTurned 82 = .ok (.goto (-63), 3) := by decide +kernel
theorem dX2_staysTurned_85 : decode cX2_staysTurned 85 = .ok (.iconst 1, 1) := by decide +kernel
theorem dX2_staysTurned_86 : decode cX2_staysTurned 86 = .ok (.ireturn, 1) := by decide +kernel
theorem dX2_spareMoves_0 : decode cX2_spareMoves 0 = .ok (.iconst 0, 1) := by decide +kernel
theorem dX2_spareMoves_1 : decode cX2_spareMoves 1 = .ok (.istore_n 1, 1) := by decide +kernel
theorem dX2_spareMoves_2 : decode cX2_spareMoves 2 = .ok (.iconst 0, 1) := by decide +kernel
theorem dX2_spareMoves_3 : decode cX2_spareMoves 3 = .ok (.istore_n 2, 1) := by decide +kernel
theorem dX2_spareMoves_4 : decode cX2_spareMoves 4 = .ok (.iload_n 2, 1) := by decide +kernel
theorem dX2_spareMoves_5 : decode cX2_spareMoves 5 = .ok (.aload_n 0, 1) := by decide +kernel
theorem dX2_spareMoves_6 : decode cX2_spareMoves 6 = .ok (.getfield 15, 3) := by decide +kernel
theorem dX2_spareMoves_9 : decode cX2_spareMoves 9 = .ok (.if_icmp .ge 36, 3) := by decide +kernel
theorem dX2_spareMoves_12 : decode cX2_spareMoves 12 = .ok (.aload_n 0, 1) := by decide +kernel
theorem dX2_spareMoves_13 : decode cX2_spareMoves 13 = .ok (.aload_n 0, 1) := by decide +kernel
theorem dX2_spareMoves_14 : decode cX2_spareMoves 14 = .ok (.invokevirtual 75, 3) := by decide +kernel
theorem dX2_spareMoves_17 : decode cX2_spareMoves 17 = .ok (.iconst 1, 1) := by decide +kernel
theorem dX2_spareMoves_18 : decode cX2_spareMoves 18 = .ok (.iload_n 2, 1) := by decide +kernel
theorem dX2_spareMoves_19 : decode cX2_spareMoves 19 = .ok (.ishl, 1) := by decide +kernel
theorem dX2_spareMoves_20 : decode cX2_spareMoves 20 = .ok (.iconst (-1), 1) := by decide +kernel
theorem dX2_spareMoves_21 : decode cX2_spareMoves 21 = .ok (.ixor, 1) := by decide +kernel
theorem dX2_spareMoves_22 : decode cX2_spareMoves 22 = .ok (.iand, 1) := by decide +kernel
theorem dX2_spareMoves_23 : decode cX2_spareMoves 23 = .ok (.invokevirtual 180, 3) := by decide +kernel
theorem dX2_spareMoves_26 : decode cX2_spareMoves 26 = .ok (.aload_n 0, 1) := by decide +kernel
theorem dX2_spareMoves_27 : decode cX2_spareMoves 27 = .ok (.invokevirtual 183, 3) := by decide +kernel
theorem dX2_spareMoves_30 : decode cX2_spareMoves 30 = .ok (.if_icmp .ne 9, 3) := by decide +kernel
theorem dX2_spareMoves_33 : decode cX2_spareMoves 33 = .ok (.iload_n 1, 1) := by decide +kernel
theorem dX2_spareMoves_34 : decode cX2_spareMoves 34 = .ok (.iconst 1, 1) := by decide +kernel
theorem dX2_spareMoves_35 : decode cX2_spareMoves 35 = .ok (.iload_n 2, 1) := by decide +kernel
theorem dX2_spareMoves_36 : decode cX2_spareMoves 36 = .ok (.ishl, 1) := by decide +kernel
theorem dX2_spareMoves_37 : decode cX2_spareMoves 37 = .ok (.ior, 1) := by decide +kernel
theorem dX2_spareMoves_38 : decode cX2_spareMoves 38 = .ok (.istore_n 1, 1) := by decide +kernel
theorem dX2_spareMoves_39 : decode cX2_spareMoves 39 = .ok (.iinc 2 1, 3) := by decide +kernel
theorem dX2_spareMoves_42 : decode cX2_spareMoves 42 = .ok (.goto (-38), 3) := by decide +kernel
theorem dX2_spareMoves_45 : decode cX2_spareMoves 45 = .ok (.iload_n 1, 1) := by decide +kernel
theorem dX2_spareMoves_46 : decode cX2_spareMoves 46 = .ok (.ireturn, 1) := by decide +kernel
theorem dX2_fewestMoves_0 : decode cX2_fewestMoves 0 = .ok (.aload_n 0, 1) := by decide +kernel
theorem dX2_fewestMoves_1 : decode cX2_fewestMoves 1 = .ok (.invokevirtual 75, 3) := by decide +kernel
theorem dX2_fewestMoves_4 : decode cX2_fewestMoves 4 = .ok (.istore_n 2, 1) := by decide +kernel
theorem dX2_fewestMoves_5 : decode cX2_fewestMoves 5 = .ok (.iload_n 2, 1) := by decide +kernel
theorem dX2_fewestMoves_6 : decode cX2_fewestMoves 6 = .ok (.iload_n 1, 1) := by decide +kernel
theorem dX2_fewestMoves_7 : decode cX2_fewestMoves 7 = .ok (.iconst (-1), 1) := by decide +kernel
theorem dX2_fewestMoves_8 : decode cX2_fewestMoves 8 = .ok (.ixor, 1) := by decide +kernel
theorem dX2_fewestMoves_9 : decode cX2_fewestMoves 9 = .ok (.iand, 1) := by decide +kernel
theorem dX2_fewestMoves_10 : decode cX2_fewestMoves 10 = .ok (.istore_n 3, 1) := by decide +kernel
theorem dX2_fewestMoves_11 : decode cX2_fewestMoves 11 = .ok (.iload_n 3, 1) := by decide +kernel
theorem dX2_fewestMoves_12 : decode cX2_fewestMoves 12 = .ok (.invokestatic 184, 3) := by decide +kernel
theorem dX2_fewestMoves_15 : decode cX2_fewestMoves 15 = .ok (.istore 4, 2) := by decide +kernel
theorem dX2_fewestMoves_17 : decode cX2_fewestMoves 17 = .ok (.iload 4, 2) := by decide +kernel
theorem dX2_fewestMoves_19 : decode cX2_fewestMoves 19 = .ok (.aload_n 0, 1) := by decide +kernel
theorem dX2_fewestMoves_20 : decode cX2_fewestMoves 20 = .ok (.getfield 15, 3) := by decide +kernel
theorem dX2_fewestMoves_23 : decode cX2_fewestMoves 23 = .ok (.if_icmp .ge 58, 3) := by decide +kernel
theorem dX2_fewestMoves_26 : decode cX2_fewestMoves 26 = .ok (.iload_n 3, 1) := by decide +kernel
theorem dX2_fewestMoves_27 : decode cX2_fewestMoves 27 = .ok (.istore 5, 2) := by decide +kernel
theorem dX2_fewestMoves_29 : decode cX2_fewestMoves 29 = .ok (.iload 5, 2) := by decide +kernel
theorem dX2_fewestMoves_31 : decode cX2_fewestMoves 31 = .ok (.iload_n 2, 1) := by decide +kernel
theorem dX2_fewestMoves_32 : decode cX2_fewestMoves 32 = .ok (.if_icmp .gt 43, 3) := by decide +kernel
theorem dX2_fewestMoves_35 : decode cX2_fewestMoves 35 = .ok (.iload 5, 2) := by decide +kernel
theorem dX2_fewestMoves_37 : decode cX2_fewestMoves 37 = .ok (.invokestatic 184, 3) := by decide +kernel
theorem dX2_fewestMoves_40 : decode cX2_fewestMoves 40 = .ok (.iload 4, 2) := by decide +kernel
theorem dX2_fewestMoves_42 : decode cX2_fewestMoves 42 = .ok (.if_icmp .ne 27, 3) := by decide +kernel
theorem dX2_fewestMoves_45 : decode cX2_fewestMoves 45 = .ok (.iload 5, 2) := by decide +kernel
theorem dX2_fewestMoves_47 : decode cX2_fewestMoves 47 = .ok (.iload_n 3, 1) := by decide +kernel
theorem dX2_fewestMoves_48 : decode cX2_fewestMoves 48 = .ok (.iand, 1) := by decide +kernel
theorem dX2_fewestMoves_49 : decode cX2_fewestMoves 49 = .ok (.iload_n 3, 1) := by decide +kernel
theorem dX2_fewestMoves_50 : decode cX2_fewestMoves 50 = .ok (.if_icmp .ne 19, 3) := by decide +kernel
theorem dX2_fewestMoves_53 : decode cX2_fewestMoves 53 = .ok (.aload_n 0, 1) := by decide +kernel
theorem dX2_fewestMoves_54 : decode cX2_fewestMoves 54 = .ok (.iload 5, 2) := by decide +kernel
theorem dX2_fewestMoves_56 : decode cX2_fewestMoves 56 = .ok (.invokevirtual 180, 3) := by decide +kernel
theorem dX2_fewestMoves_59 : decode cX2_fewestMoves 59 = .ok (.aload_n 0, 1) := by decide +kernel
theorem dX2_fewestMoves_60 : decode cX2_fewestMoves 60 = .ok (.invokevirtual 183, 3) := by decide +kernel
theorem dX2_fewestMoves_63 : decode cX2_fewestMoves 63 = .ok (.if_icmp .ne 6, 3) := by decide +kernel
theorem dX2_fewestMoves_66 : decode cX2_fewestMoves 66 = .ok (.iload 5, 2) := by decide +kernel
theorem dX2_fewestMoves_68 : decode cX2_fewestMoves 68 = .ok (.ireturn, 1) := by decide +kernel
theorem dX2_fewestMoves_69 : decode cX2_fewestMoves 69 = .ok (.iinc 5 1, 3) := by decide +kernel
theorem dX2_fewestMoves_72 : decode cX2_fewestMoves 72 = .ok (.goto (-43), 3) := by decide +kernel
theorem dX2_fewestMoves_75 : decode cX2_fewestMoves 75 = .ok (.iinc 4 1, 3) := by decide +kernel
theorem dX2_fewestMoves_78 : decode cX2_fewestMoves 78 = .ok (.goto (-61), 3) := by decide +kernel
theorem dX2_fewestMoves_81 : decode cX2_fewestMoves 81 = .ok (.iload_n 2, 1) := by decide +kernel
theorem dX2_fewestMoves_82 : decode cX2_fewestMoves 82 = .ok (.ireturn, 1) := by decide +kernel
theorem dX2_countHolding_0 : decode cX2_countHolding 0 = .ok (.lconst 0, 1) := by decide +kernel
theorem dX2_countHolding_1 : decode cX2_countHolding 1 = .ok (.lstore_n 2, 1) := by decide +kernel
theorem dX2_countHolding_2 : decode cX2_countHolding 2 = .ok (.iload_n 1, 1) := by decide +kernel
theorem dX2_countHolding_3 : decode cX2_countHolding 3 = .ok (.invokestatic 184, 3) := by decide +kernel
theorem dX2_countHolding_6 : decode cX2_countHolding 6 = .ok (.istore 4, 2) := by decide +kernel
theorem dX2_countHolding_8 : decode cX2_countHolding 8 = .ok (.iconst 0, 1) := by decide +kernel
theorem dX2_countHolding_9 : decode cX2_countHolding 9 = .ok (.istore 5, 2) := by decide +kernel
theorem dX2_countHolding_11 : decode cX2_countHolding 11 = .ok (.iload 4, 2) := by decide +kernel
theorem dX2_countHolding_13 : decode cX2_countHolding 13 = .ok (.istore 6, 2) := by decide +kernel
theorem dX2_countHolding_15 : decode cX2_countHolding 15 = .ok (.iconst 0, 1) := by decide +kernel
theorem dX2_countHolding_16 : decode cX2_countHolding 16 = .ok (.istore 7, 2) := by decide +kernel
theorem dX2_countHolding_18 : decode cX2_countHolding 18 = .ok (.iload 7, 2) := by decide +kernel
theorem dX2_countHolding_20 : decode cX2_countHolding 20 = .ok (.aload_n 0, 1) := by decide +kernel
theorem dX2_countHolding_21 : decode cX2_countHolding 21 = .ok (.getfield 9, 3) := by decide +kernel
theorem dX2_countHolding_24 : decode cX2_countHolding 24 = .ok (.if_icmp .ge 74, 3) := by decide +kernel
theorem dX2_countHolding_27 : decode cX2_countHolding 27 = .ok (.iload_n 1, 1) := by decide +kernel
theorem dX2_countHolding_28 : decode cX2_countHolding 28 = .ok (.iload 7, 2) := by decide +kernel
theorem dX2_countHolding_30 : decode cX2_countHolding 30 = .ok (.ishr, 1) := by decide +kernel
theorem dX2_countHolding_31 : decode cX2_countHolding 31 = .ok (.iconst 1, 1) := by decide +kernel
theorem dX2_countHolding_32 : decode cX2_countHolding 32 = .ok (.iand, 1) := by decide +kernel
theorem dX2_countHolding_33 : decode cX2_countHolding 33 = .ok (.ifCond .eq 7, 3) := by decide +kernel
theorem dX2_countHolding_36 : decode cX2_countHolding 36 = .ok (.iconst 1, 1) := by decide +kernel
theorem dX2_countHolding_37 : decode cX2_countHolding 37 = .ok (.goto 4, 3) := by decide +kernel
theorem dX2_countHolding_40 : decode cX2_countHolding 40 = .ok (.iconst 0, 1) := by decide +kernel
theorem dX2_countHolding_41 : decode cX2_countHolding 41 = .ok (.istore 8, 2) := by decide +kernel
theorem dX2_countHolding_43 : decode cX2_countHolding 43 = .ok (.lload_n 2, 1) := by decide +kernel
theorem dX2_countHolding_44 : decode cX2_countHolding 44 = .ok (.iload 7, 2) := by decide +kernel
theorem dX2_countHolding_46 : decode cX2_countHolding 46 = .ok (.iload 8, 2) := by decide +kernel
theorem dX2_countHolding_48 : decode cX2_countHolding 48 = .ok (.ifCond .eq 8, 3) := by decide +kernel
theorem dX2_countHolding_51 : decode cX2_countHolding 51 = .ok (.iload 5, 2) := by decide +kernel
theorem dX2_countHolding_53 : decode cX2_countHolding 53 = .ok (.goto 5, 3) := by decide +kernel
theorem dX2_countHolding_56 : decode cX2_countHolding 56 = .ok (.iload 6, 2) := by decide +kernel
theorem dX2_countHolding_58 : decode cX2_countHolding 58 = .ok (.invokestatic 189, 3) := by decide +kernel
theorem dX2_countHolding_61 : decode cX2_countHolding 61 = .ok (.lstore_n 2, 1) := by decide +kernel
theorem dX2_countHolding_62 : decode cX2_countHolding 62 = .ok (.iload 5, 2) := by decide +kernel
theorem dX2_countHolding_64 : decode cX2_countHolding 64 = .ok (.iload 8, 2) := by decide +kernel
theorem dX2_countHolding_66 : decode cX2_countHolding 66 = .ok (.ifCond .eq 7, 3) := by decide +kernel
theorem dX2_countHolding_69 : decode cX2_countHolding 69 = .ok (.iconst 1, 1) := by decide +kernel
theorem dX2_countHolding_70 : decode cX2_countHolding 70 = .ok (.goto 4, 3) := by decide +kernel
theorem dX2_countHolding_73 : decode cX2_countHolding 73 = .ok (.iconst 0, 1) := by decide +kernel
theorem dX2_countHolding_74 : decode cX2_countHolding 74 = .ok (.iadd, 1) := by decide +kernel
theorem dX2_countHolding_75 : decode cX2_countHolding 75 = .ok (.istore 5, 2) := by decide +kernel
theorem dX2_countHolding_77 : decode cX2_countHolding 77 = .ok (.iload 6, 2) := by decide +kernel
theorem dX2_countHolding_79 : decode cX2_countHolding 79 = .ok (.iload 8, 2) := by decide +kernel
theorem dX2_countHolding_81 : decode cX2_countHolding 81 = .ok (.ifCond .eq 7, 3) := by decide +kernel
theorem dX2_countHolding_84 : decode cX2_countHolding 84 = .ok (.iconst 0, 1) := by decide +kernel
theorem dX2_countHolding_85 : decode cX2_countHolding 85 = .ok (.goto 4, 3) := by decide +kernel
theorem dX2_countHolding_88 : decode cX2_countHolding 88 = .ok (.iconst 1, 1) := by decide +kernel
theorem dX2_countHolding_89 : decode cX2_countHolding 89 = .ok (.iadd, 1) := by decide +kernel
theorem dX2_countHolding_90 : decode cX2_countHolding 90 = .ok (.istore 6, 2) := by decide +kernel
theorem dX2_countHolding_92 : decode cX2_countHolding 92 = .ok (.iinc 7 1, 3) := by decide +kernel
theorem dX2_countHolding_95 : decode cX2_countHolding 95 = .ok (.goto (-77), 3) := by decide +kernel
theorem dX2_countHolding_98 : decode cX2_countHolding 98 = .ok (.aload_n 0, 1) := by decide +kernel
theorem dX2_countHolding_99 : decode cX2_countHolding 99 = .ok (.getfield 32, 3) := by decide +kernel
theorem dX2_countHolding_102 : decode cX2_countHolding 102 = .ok (.aload_n 0, 1) := by decide +kernel
theorem dX2_countHolding_103 : decode cX2_countHolding 103 = .ok (.getfield 9, 3) := by decide +kernel
theorem dX2_countHolding_106 : decode cX2_countHolding 106 = .ok (.invokevirtual 193, 3) := by decide +kernel
theorem dX2_countHolding_109 : decode cX2_countHolding 109 = .ok (.iconst 0, 1) := by decide +kernel
theorem dX2_countHolding_110 : decode cX2_countHolding 110 = .ok (.istore 7, 2) := by decide +kernel
theorem dX2_countHolding_112 : decode cX2_countHolding 112 = .ok (.iload 7, 2) := by decide +kernel
theorem dX2_countHolding_114 : decode cX2_countHolding 114 = .ok (.aload_n 0, 1) := by decide +kernel
theorem dX2_countHolding_115 : decode cX2_countHolding 115 = .ok (.getfield 15, 3) := by decide +kernel
theorem dX2_countHolding_118 : decode cX2_countHolding 118 = .ok (.if_icmp .ge 44, 3) := by decide +kernel
theorem dX2_countHolding_121 : decode cX2_countHolding 121 = .ok (.aload_n 0, 1) := by decide +kernel
theorem dX2_countHolding_122 : decode cX2_countHolding 122 = .ok (.getfield 29, 3) := by decide +kernel
theorem dX2_countHolding_125 : decode cX2_countHolding 125 = .ok (.iload 7, 2) := by decide +kernel
theorem dX2_countHolding_127 : decode cX2_countHolding 127 = .ok (.ishr, 1) := by decide +kernel
theorem dX2_countHolding_128 : decode cX2_countHolding 128 = .ok (.iconst 1, 1) := by decide +kernel
theorem dX2_countHolding_129 : decode cX2_countHolding 129 = .ok (.iand, 1) := by decide +kernel
theorem dX2_countHolding_130 : decode cX2_countHolding 130 = .ok (.ifCond .eq 26, 3) := by decide +kernel
theorem dX2_countHolding_133 : decode cX2_countHolding 133 = .ok (.aload_n 0, 1) := by decide +kernel
theorem dX2_countHolding_134 : decode cX2_countHolding 134 = .ok (.getfield 32, 3) := by decide +kernel
theorem dX2_countHolding_137 : decode cX2_countHolding 137 = .ok (.aload_n 0, 1) := by decide +kernel
theorem dX2_countHolding_138 : decode cX2_countHolding 138 = .ok (.getfield 18, 3) := by decide +kernel
theorem dX2_countHolding_141 : decode cX2_countHolding 141 = .ok (.iload 7, 2) := by decide +kernel
theorem dX2_countHolding_143 : decode cX2_countHolding 143 = .ok (.laload, 1) := by decide +kernel
theorem dX2_countHolding_144 : decode cX2_countHolding 144 = .ok (.lload_n 2, 1) := by decide +kernel
theorem dX2_countHolding_145 : decode cX2_countHolding 145 = .ok (.aload_n 0, 1) := by decide +kernel
theorem dX2_countHolding_146 : decode cX2_countHolding 146 = .ok (.getfield 9, 3) := by decide +kernel
theorem dX2_countHolding_149 : decode cX2_countHolding 149 = .ok (.invokestatic 176, 3) := by decide +kernel
theorem dX2_countHolding_152 : decode cX2_countHolding 152 = .ok (.invokevirtual 196, 3) := by decide +kernel
theorem dX2_countHolding_155 : decode cX2_countHolding 155 = .ok (.pop, 1) := by decide +kernel
theorem dX2_countHolding_156 : decode cX2_countHolding 156 = .ok (.iinc 7 1, 3) := by decide +kernel
theorem dX2_countHolding_159 : decode cX2_countHolding 159 = .ok (.goto (-47), 3) := by decide +kernel
theorem dX2_countHolding_162 : decode cX2_countHolding 162 = .ok (.aload_n 0, 1) := by decide +kernel
theorem dX2_countHolding_163 : decode cX2_countHolding 163 = .ok (.getfield 32, 3) := by decide +kernel
theorem dX2_countHolding_166 : decode cX2_countHolding 166 = .ok (.iload 4, 2) := by decide +kernel
theorem dX2_countHolding_168 : decode cX2_countHolding 168 = .ok (.invokevirtual 199, 3) := by decide +kernel
theorem dX2_countHolding_171 : decode cX2_countHolding 171 = .ok (.ireturn, 1) := by decide +kernel
theorem dX3_init_0 : decode cX3_init 0 = .ok (.aload_n 0, 1) := by decide +kernel
theorem dX3_init_1 : decode cX3_init 1 = .ok (.invokespecial 3, 3) := by decide +kernel
theorem dX3_init_4 : decode cX3_init 4 = .ok (.aload_n 0, 1) := by decide +kernel
theorem dX3_init_5 : decode cX3_init 5 = .ok (.iconst 0, 1) := by decide +kernel
theorem dX3_init_6 : decode cX3_init 6 = .ok (.putfield 9, 3) := by decide +kernel
theorem dX3_init_9 : decode cX3_init 9 = .ok (.aload_n 0, 1) := by decide +kernel
theorem dX3_init_10 : decode cX3_init 10 = .ok (.lconst 0, 1) := by decide +kernel
theorem dX3_init_11 : decode cX3_init 11 = .ok (.putfield 15, 3) := by decide +kernel
theorem dX3_init_14 : decode cX3_init 14 = .ok (.aload_n 0, 1) := by decide +kernel
theorem dX3_init_15 : decode cX3_init 15 = .ok (.iconst 0, 1) := by decide +kernel
theorem dX3_init_16 : decode cX3_init 16 = .ok (.putfield 19, 3) := by decide +kernel
theorem dX3_init_19 : decode cX3_init 19 = .ok (.aload_n 0, 1) := by decide +kernel
theorem dX3_init_20 : decode cX3_init 20 = .ok (.bipush 6, 2) := by decide +kernel
theorem dX3_init_22 : decode cX3_init 22 = .ok (.newarray .long, 2) := by decide +kernel
theorem dX3_init_24 : decode cX3_init 24 = .ok (.putfield 22, 3) := by decide +kernel
theorem dX3_init_27 : decode cX3_init 27 = .ok (.aload_n 0, 1) := by decide +kernel
theorem dX3_init_28 : decode cX3_init 28 = .ok (.bipush 12, 2) := by decide +kernel
theorem dX3_init_30 : decode cX3_init 30 = .ok (.newarray .long, 2) := by decide +kernel
theorem dX3_init_32 : decode cX3_init 32 = .ok (.putfield 26, 3) := by decide +kernel
theorem dX3_init_35 : decode cX3_init 35 = .ok (.aload_n 0, 1) := by decide +kernel
theorem dX3_init_36 : decode cX3_init 36 = .ok (.bipush 12, 2) := by decide +kernel
theorem dX3_init_38 : decode cX3_init 38 = .ok (.newarray .int, 2) := by decide +kernel
theorem dX3_init_40 : decode cX3_init 40 = .ok (.putfield 29, 3) := by decide +kernel
theorem dX3_init_43 : decode cX3_init 43 = .ok (.aload_n 0, 1) := by decide +kernel
theorem dX3_init_44 : decode cX3_init 44 = .ok (.bipush 72, 2) := by decide +kernel
theorem dX3_init_46 : decode cX3_init 46 = .ok (.newarray .long, 2) := by decide +kernel
theorem dX3_init_48 : decode cX3_init 48 = .ok (.putfield 33, 3) := by decide +kernel
theorem dX3_init_51 : decode cX3_init 51 = .ok (.return_, 1) := by decide +kernel
theorem dX3_forget_0 : decode cX3_forget 0 = .ok (.aload_n 0, 1) := by decide +kernel
theorem dX3_forget_1 : decode cX3_forget 1 = .ok (.iconst 0, 1) := by decide +kernel
theorem dX3_forget_2 : decode cX3_forget 2 = .ok (.putfield 9, 3) := by decide +kernel
theorem dX3_forget_5 : decode cX3_forget 5 = .ok (.return_, 1) := by decide +kernel
theorem dX3_keep_0 : decode cX3_keep 0 = .ok (.aload_n 0, 1) := by decide +kernel
theorem dX3_keep_1 : decode cX3_keep 1 = .ok (.getfield 9, 3) := by decide +kernel
theorem dX3_keep_4 : decode cX3_keep 4 = .ok (.bipush 12, 2) := by decide +kernel
theorem dX3_keep_6 : decode cX3_keep 6 = .ok (.if_icmp .lt 7, 3) := by decide +kernel
theorem dX3_keep_9 : decode cX3_keep 9 = .ok (.aload_n 0, 1) := by decide +kernel
theorem dX3_keep_10 : decode cX3_keep 10 = .ok (.invokevirtual 36, 3) := by decide +kernel
theorem dX3_keep_13 : decode cX3_keep 13 = .ok (.aload_n 0, 1) := by decide +kernel
theorem dX3_keep_14 : decode cX3_keep 14 = .ok (.getfield 26, 3) := by decide +kernel
theorem dX3_keep_17 : decode cX3_keep 17 = .ok (.aload_n 0, 1) := by decide +kernel
theorem dX3_keep_18 : decode cX3_keep 18 = .ok (.getfield 9, 3) := by decide +kernel
theorem dX3_keep_21 : decode cX3_keep 21 = .ok (.lload_n 1, 1) := by decide +kernel
theorem dX3_keep_22 : decode cX3_keep 22 = .ok (.lastore, 1) := by decide +kernel
theorem dX3_keep_23 : decode cX3_keep 23 = .ok (.aload_n 0, 1) := by decide +kernel
theorem dX3_keep_24 : decode cX3_keep 24 = .ok (.getfield 29, 3) := by decide +kernel
theorem dX3_keep_27 : decode cX3_keep 27 = .ok (.aload_n 0, 1) := by decide +kernel
theorem dX3_keep_28 : decode cX3_keep 28 = .ok (.getfield 9, 3) := by decide +kernel
theorem dX3_keep_31 : decode cX3_keep 31 = .ok (.iload 4, 2) := by decide +kernel
theorem dX3_keep_33 : decode cX3_keep 33 = .ok (.iastore, 1) := by decide +kernel
theorem dX3_keep_34 : decode cX3_keep 34 = .ok (.iconst 0, 1) := by decide +kernel
theorem dX3_keep_35 : decode cX3_keep 35 = .ok (.istore 5, 2) := by decide +kernel
theorem dX3_keep_37 : decode cX3_keep 37 = .ok (.iload 5, 2) := by decide +kernel
theorem dX3_keep_39 : decode cX3_keep 39 = .ok (.bipush 6, 2) := by decide +kernel
theorem dX3_keep_41 : decode cX3_keep 41 = .ok (.if_icmp .ge 35, 3) := by decide +kernel
theorem dX3_keep_44 : decode cX3_keep 44 = .ok (.iload 5, 2) := by decide +kernel
theorem dX3_keep_46 : decode cX3_keep 46 = .ok (.aload_n 3, 1) := by decide +kernel
theorem dX3_keep_47 : decode cX3_keep 47 = .ok (.arraylength, 1) := by decide +kernel
theorem dX3_keep_48 : decode cX3_keep 48 = .ok (.if_icmp .ge 28, 3) := by decide +kernel
theorem dX3_keep_51 : decode cX3_keep 51 = .ok (.aload_n 0, 1) := by decide +kernel
theorem dX3_keep_52 : decode cX3_keep 52 = .ok (.getfield 33, 3) := by decide +kernel
theorem dX3_keep_55 : decode cX3_keep 55 = .ok (.aload_n 0, 1) := by decide +kernel
theorem dX3_keep_56 : decode cX3_keep 56 = .ok (.getfield 9, 3) := by decide +kernel
theorem dX3_keep_59 : decode cX3_keep 59 = .ok (.bipush 6, 2) := by decide +kernel
theorem dX3_keep_61 : decode cX3_keep 61 = .ok (.imul, 1) := by decide +kernel
theorem dX3_keep_62 : decode cX3_keep 62 = .ok (.iload 5, 2) := by decide +kernel
theorem dX3_keep_64 : decode cX3_keep 64 = .ok (.iadd, 1) := by decide +kernel
theorem dX3_keep_65 : decode cX3_keep 65 = .ok (.aload_n 3, 1) := by decide +kernel
theorem dX3_keep_66 : decode cX3_keep 66 = .ok (.iload 5, 2) := by decide +kernel
theorem dX3_keep_68 : decode cX3_keep 68 = .ok (.laload, 1) := by decide +kernel
theorem dX3_keep_69 : decode cX3_keep 69 = .ok (.lastore, 1) := by decide +kernel
theorem dX3_keep_70 : decode cX3_keep 70 = .ok (.iinc 5 1, 3) := by decide +kernel
theorem dX3_keep_73 : decode cX3_keep 73 = .ok (.goto (-36), 3) := by decide +kernel
theorem dX3_keep_76 : decode cX3_keep 76 = .ok (.aload_n 0, 1) := by decide +kernel
theorem dX3_keep_77 : decode cX3_keep 77 = .ok (.dup, 1) := by decide +kernel
theorem dX3_keep_78 : decode cX3_keep 78 = .ok (.getfield 9, 3) := by decide +kernel
theorem dX3_keep_81 : decode cX3_keep 81 = .ok (.iconst 1, 1) := by decide +kernel
theorem dX3_keep_82 : decode cX3_keep 82 = .ok (.iadd, 1) := by decide +kernel
theorem dX3_keep_83 : decode cX3_keep 83 = .ok (.putfield 9, 3) := by decide +kernel
theorem dX3_keep_86 : decode cX3_keep 86 = .ok (.return_, 1) := by decide +kernel
theorem dX3_loseOldest_0 : decode cX3_loseOldest 0 = .ok (.aload_n 0, 1) := by decide +kernel
theorem dX3_loseOldest_1 : decode cX3_loseOldest 1 = .ok (.getfield 26, 3) := by decide +kernel
theorem dX3_loseOldest_4 : decode cX3_loseOldest 4 = .ok (.iconst 1, 1) := by decide +kernel
theorem dX3_loseOldest_5 : decode cX3_loseOldest 5 = .ok (.aload_n 0, 1) := by decide +kernel
theorem dX3_loseOldest_6 : decode cX3_loseOldest 6 = .ok (.getfield 26, 3) := by decide +kernel
theorem dX3_loseOldest_9 : decode cX3_loseOldest 9 = .ok (.iconst 0, 1) := by decide +kernel
theorem dX3_loseOldest_10 : decode cX3_loseOldest 10 = .ok (.bipush 11, 2) := by decide +kernel
theorem dX3_loseOldest_12 : decode cX3_loseOldest 12 = .ok (.invokestatic 39, 3) := by decide +kernel
theorem dX3_loseOldest_15 : decode cX3_loseOldest 15 = .ok (.aload_n 0, 1) := by decide +kernel
theorem dX3_loseOldest_16 : decode cX3_loseOldest 16 = .ok (.getfield 29, 3) := by decide +kernel
theorem dX3_loseOldest_19 : decode cX3_loseOldest 19 = .ok (.iconst 1, 1) := by decide +kernel
theorem dX3_loseOldest_20 : decode cX3_loseOldest 20 = .ok (.aload_n 0, 1) := by decide +kernel
theorem dX3_loseOldest_21 : decode cX3_loseOldest 21 = .ok (.getfield 29, 3) := by decide +kernel
theorem dX3_loseOldest_24 : decode cX3_loseOldest 24 = .ok (.iconst 0, 1) := by decide +kernel
theorem dX3_loseOldest_25 : decode cX3_loseOldest 25 = .ok (.bipush 11, 2) := by decide +kernel
theorem dX3_loseOldest_27 : decode cX3_loseOldest 27 = .ok (.invokestatic 39, 3) := by decide +kernel
theorem dX3_loseOldest_30 : decode cX3_loseOldest 30 = .ok (.aload_n 0, 1) := by decide +kernel
theorem dX3_loseOldest_31 : decode cX3_loseOldest 31 = .ok (.getfield 33, 3) := by decide +kernel
theorem dX3_loseOldest_34 : decode cX3_loseOldest 34 = .ok (.bipush 6, 2) := by decide +kernel
theorem dX3_loseOldest_36 : decode cX3_loseOldest 36 = .ok (.aload_n 0, 1) := by decide +kernel
theorem dX3_loseOldest_37 : decode cX3_loseOldest 37 = .ok (.getfield 33, 3) := by decide +kernel
theorem dX3_loseOldest_40 : decode cX3_loseOldest 40 = .ok (.iconst 0, 1) := by decide +kernel
theorem dX3_loseOldest_41 : decode cX3_loseOldest 41 = .ok (.bipush 66, 2) := by decide +kernel
theorem dX3_loseOldest_43 : decode cX3_loseOldest 43 = .ok (.invokestatic 39, 3) := by decide +kernel
theorem dX3_loseOldest_46 : decode cX3_loseOldest 46 = .ok (.aload_n 0, 1) := by decide +kernel
theorem dX3_loseOldest_47 : decode cX3_loseOldest 47 = .ok (.bipush 11, 2) := by decide +kernel
theorem dX3_loseOldest_49 : decode cX3_loseOldest 49 = .ok (.putfield 9, 3) := by decide +kernel
theorem dX3_loseOldest_52 : decode cX3_loseOldest 52 = .ok (.return_, 1) := by decide +kernel
theorem dX3_goBack_0 : decode cX3_goBack 0 = .ok (.aload_n 0, 1) := by decide +kernel
theorem dX3_goBack_1 : decode cX3_goBack 1 = .ok (.getfield 9, 3) := by decide +kernel
theorem dX3_goBack_4 : decode cX3_goBack 4 = .ok (.ifCond .gt 4, 3) := by decide +kernel
theorem dX3_goBack_7 : decode cX3_goBack 7 = .ok (.return_, 1) := by decide +kernel
theorem dX3_goBack_8 : decode cX3_goBack 8 = .ok (.aload_n 0, 1) := by decide +kernel
theorem dX3_goBack_9 : decode cX3_goBack 9 = .ok (.dup, 1) := by decide +kernel
theorem dX3_goBack_10 : decode cX3_goBack 10 = .ok (.getfield 9, 3) := by decide +kernel
theorem dX3_goBack_13 : decode cX3_goBack 13 = .ok (.iconst 1, 1) := by decide +kernel
theorem dX3_goBack_14 : decode cX3_goBack 14 = .ok (.isub, 1) := by decide +kernel
theorem dX3_goBack_15 : decode cX3_goBack 15 = .ok (.putfield 9, 3) := by decide +kernel
theorem dX3_goBack_18 : decode cX3_goBack 18 = .ok (.aload_n 0, 1) := by decide +kernel
theorem dX3_goBack_19 : decode cX3_goBack 19 = .ok (.aload_n 0, 1) := by decide +kernel
theorem dX3_goBack_20 : decode cX3_goBack 20 = .ok (.getfield 26, 3) := by decide +kernel
theorem dX3_goBack_23 : decode cX3_goBack 23 = .ok (.aload_n 0, 1) := by decide +kernel
theorem dX3_goBack_24 : decode cX3_goBack 24 = .ok (.getfield 9, 3) := by decide +kernel
theorem dX3_goBack_27 : decode cX3_goBack 27 = .ok (.laload, 1) := by decide +kernel
theorem dX3_goBack_28 : decode cX3_goBack 28 = .ok (.putfield 15, 3) := by decide +kernel
theorem dX3_goBack_31 : decode cX3_goBack 31 = .ok (.aload_n 0, 1) := by decide +kernel
theorem dX3_goBack_32 : decode cX3_goBack 32 = .ok (.aload_n 0, 1) := by decide +kernel
theorem dX3_goBack_33 : decode cX3_goBack 33 = .ok (.getfield 29, 3) := by decide +kernel
theorem dX3_goBack_36 : decode cX3_goBack 36 = .ok (.aload_n 0, 1) := by decide +kernel
theorem dX3_goBack_37 : decode cX3_goBack 37 = .ok (.getfield 9, 3) := by decide +kernel
theorem dX3_goBack_40 : decode cX3_goBack 40 = .ok (.iaload, 1) := by decide +kernel
theorem dX3_goBack_41 : decode cX3_goBack 41 = .ok (.putfield 19, 3) := by decide +kernel
theorem dX3_goBack_44 : decode cX3_goBack 44 = .ok (.iconst 0, 1) := by decide +kernel
theorem dX3_goBack_45 : decode cX3_goBack 45 = .ok (.istore_n 1, 1) := by decide +kernel
theorem dX3_goBack_46 : decode cX3_goBack 46 = .ok (.iload_n 1, 1) := by decide +kernel
theorem dX3_goBack_47 : decode cX3_goBack 47 = .ok (.bipush 6, 2) := by decide +kernel
theorem dX3_goBack_49 : decode cX3_goBack 49 = .ok (.if_icmp .ge 29, 3) := by decide +kernel
theorem dX3_goBack_52 : decode cX3_goBack 52 = .ok (.aload_n 0, 1) := by decide +kernel
theorem dX3_goBack_53 : decode cX3_goBack 53 = .ok (.getfield 22, 3) := by decide +kernel
theorem dX3_goBack_56 : decode cX3_goBack 56 = .ok (.iload_n 1, 1) := by decide +kernel
theorem dX3_goBack_57 : decode cX3_goBack 57 = .ok (.aload_n 0, 1) := by decide +kernel
theorem dX3_goBack_58 : decode cX3_goBack 58 = .ok (.getfield 33, 3) := by decide +kernel
theorem dX3_goBack_61 : decode cX3_goBack 61 = .ok (.aload_n 0, 1) := by decide +kernel
theorem dX3_goBack_62 : decode cX3_goBack 62 = .ok (.getfield 9, 3) := by decide +kernel
theorem dX3_goBack_65 : decode cX3_goBack 65 = .ok (.bipush 6, 2) := by decide +kernel
theorem dX3_goBack_67 : decode cX3_goBack 67 = .ok (.imul, 1) := by decide +kernel
theorem dX3_goBack_68 : decode cX3_goBack 68 = .ok (.iload_n 1, 1) := by decide +kernel
theorem dX3_goBack_69 : decode cX3_goBack 69 = .ok (.iadd, 1) := by decide +kernel
theorem dX3_goBack_70 : decode cX3_goBack 70 = .ok (.laload, 1) := by decide +kernel
theorem dX3_goBack_71 : decode cX3_goBack 71 = .ok (.lastore, 1) := by decide +kernel
theorem dX3_goBack_72 : decode cX3_goBack 72 = .ok (.iinc 1 1, 3) := by decide +kernel
theorem dX3_goBack_75 : decode cX3_goBack 75 = .ok (.goto (-29), 3) := by decide +kernel
theorem dX3_goBack_78 : decode cX3_goBack 78 = .ok (.return_, 1) := by decide +kernel
theorem dX4_init_0 : decode cX4_init 0 = .ok (.aload_n 0, 1) := by decide +kernel
theorem dX4_init_1 : decode cX4_init 1 = .ok (.invokespecial 3, 3) := by decide +kernel
theorem dX4_init_4 : decode cX4_init 4 = .ok (.aload_n 0, 1) := by decide +kernel
theorem dX4_init_5 : decode cX4_init 5 = .ok (.iconst 0, 1) := by decide +kernel
theorem dX4_init_6 : decode cX4_init 6 = .ok (.putfield 9, 3) := by decide +kernel
theorem dX4_init_9 : decode cX4_init 9 = .ok (.aload_n 0, 1) := by decide +kernel
theorem dX4_init_10 : decode cX4_init 10 = .ok (.iconst 0, 1) := by decide +kernel
theorem dX4_init_11 : decode cX4_init 11 = .ok (.putfield 15, 3) := by decide +kernel
theorem dX4_init_14 : decode cX4_init 14 = .ok (.aload_n 0, 1) := by decide +kernel
theorem dX4_init_15 : decode cX4_init 15 = .ok (.iconst 0, 1) := by decide +kernel
theorem dX4_init_16 : decode cX4_init 16 = .ok (.putfield 18, 3) := by decide +kernel
theorem dX4_init_19 : decode cX4_init 19 = .ok (.aload_n 0, 1) := by decide +kernel
theorem dX4_init_20 : decode cX4_init 20 = .ok (.iconst 0, 1) := by decide +kernel
theorem dX4_init_21 : decode cX4_init 21 = .ok (.putfield 21, 3) := by decide +kernel
theorem dX4_init_24 : decode cX4_init 24 = .ok (.aload_n 0, 1) := by decide +kernel
theorem dX4_init_25 : decode cX4_init 25 = .ok (.iconst 0, 1) := by decide +kernel
theorem dX4_init_26 : decode cX4_init 26 = .ok (.putfield 24, 3) := by decide +kernel
theorem dX4_init_29 : decode cX4_init 29 = .ok (.aload_n 0, 1) := by decide +kernel
theorem dX4_init_30 : decode cX4_init 30 = .ok (.iconst 0, 1) := by decide +kernel
theorem dX4_init_31 : decode cX4_init 31 = .ok (.putfield 27, 3) := by decide +kernel
theorem dX4_init_34 : decode cX4_init 34 = .ok (.aload_n 0, 1) := by decide +kernel
theorem dX4_init_35 : decode cX4_init 35 = .ok (.iconst 0, 1) := by decide +kernel
theorem dX4_init_36 : decode cX4_init 36 = .ok (.putfield 31, 3) := by decide +kernel
theorem dX4_init_39 : decode cX4_init 39 = .ok (.aload_n 0, 1) := by decide +kernel
theorem dX4_init_40 : decode cX4_init 40 = .ok (.iconst 0, 1) := by decide +kernel
theorem dX4_init_41 : decode cX4_init 41 = .ok (.putfield 34, 3) := by decide +kernel
theorem dX4_init_44 : decode cX4_init 44 = .ok (.aload_n 0, 1) := by decide +kernel
theorem dX4_init_45 : decode cX4_init 45 = .ok (.iload_n 1, 1) := by decide +kernel
theorem dX4_init_46 : decode cX4_init 46 = .ok (.iconst 1, 1) := by decide +kernel
theorem dX4_init_47 : decode cX4_init 47 = .ok (.invokestatic 37, 3) := by decide +kernel
theorem dX4_init_50 : decode cX4_init 50 = .ok (.putfield 43, 3) := by decide +kernel
theorem dX4_init_53 : decode cX4_init 53 = .ok (.aload_n 0, 1) := by decide +kernel
theorem dX4_init_54 : decode cX4_init 54 = .ok (.aload_n 0, 1) := by decide +kernel
theorem dX4_init_55 : decode cX4_init 55 = .ok (.getfield 43, 3) := by decide +kernel
theorem dX4_init_58 : decode cX4_init 58 = .ok (.newarray .int, 2) := by decide +kernel
theorem dX4_init_60 : decode cX4_init 60 = .ok (.putfield 46, 3) := by decide +kernel
theorem dX4_init_63 : decode cX4_init 63 = .ok (.aload_n 0, 1) := by decide +kernel
theorem dX4_init_64 : decode cX4_init 64 = .ok (.aload_n 0, 1) := by decide +kernel
theorem dX4_init_65 : decode cX4_init 65 = .ok (.getfield 43, 3) := by decide +kernel
theorem dX4_init_68 : decode cX4_init 68 = .ok (.newarray .int, 2) := by decide +kernel
theorem dX4_init_70 : decode cX4_init 70 = .ok (.putfield 50, 3) := by decide +kernel
theorem dX4_init_73 : decode cX4_init 73 = .ok (.aload_n 0, 1) := by decide +kernel
theorem dX4_init_74 : decode cX4_init 74 = .ok (.aload_n 0, 1) := by decide +kernel
theorem dX4_init_75 : decode cX4_init 75 = .ok (.getfield 43, 3) := by decide +kernel
theorem dX4_init_78 : decode cX4_init 78 = .ok (.newarray .long, 2) := by decide +kernel
theorem dX4_init_80 : decode cX4_init 80 = .ok (.putfield 53, 3) := by decide +kernel
theorem dX4_init_83 : decode cX4_init 83 = .ok (.aload_n 0, 1) := by decide +kernel
theorem dX4_init_84 : decode cX4_init 84 = .ok (.aload_n 0, 1) := by decide +kernel
theorem dX4_init_85 : decode cX4_init 85 = .ok (.getfield 43, 3) := by decide +kernel
theorem dX4_init_88 : decode cX4_init 88 = .ok (.newarray .long, 2) := by decide +kernel
theorem dX4_init_90 : decode cX4_init 90 = .ok (.putfield 57, 3) := by decide +kernel
theorem dX4_init_93 : decode cX4_init 93 = .ok (.aload_n 0, 1) := by decide +kernel
theorem dX4_init_94 : decode cX4_init 94 = .ok (.aload_n 0, 1) := by decide +kernel
theorem dX4_init_95 : decode cX4_init 95 = .ok (.getfield 43, 3) := by decide +kernel
theorem dX4_init_98 : decode cX4_init 98 = .ok (.newarray .int, 2) := by decide +kernel
theorem dX4_init_100 : decode cX4_init 100 = .ok (.putfield 60, 3) := by decide +kernel
theorem dX4_init_103 : decode cX4_init 103 = .ok (.aload_n 0, 1) := by decide +kernel
theorem dX4_init_104 : decode cX4_init 104 = .ok (.aload_n 0, 1) := by decide +kernel
theorem dX4_init_105 : decode cX4_init 105 = .ok (.getfield 43, 3) := by decide +kernel
theorem dX4_init_108 : decode cX4_init 108 = .ok (.newarray .int, 2) := by decide +kernel
theorem dX4_init_110 : decode cX4_init 110 = .ok (.putfield 63, 3) := by decide +kernel
theorem dX4_init_113 : decode cX4_init 113 = .ok (.aload_n 0, 1) := by decide +kernel
theorem dX4_init_114 : decode cX4_init 114 = .ok (.bipush 12, 2) := by decide +kernel
theorem dX4_init_116 : decode cX4_init 116 = .ok (.aload_n 0, 1) := by decide +kernel
theorem dX4_init_117 : decode cX4_init 117 = .ok (.getfield 43, 3) := by decide +kernel
theorem dX4_init_120 : decode cX4_init 120 = .ok (.multianewarray 66 2, 4) := by decide +kernel
theorem dX4_init_124 : decode cX4_init 124 = .ok (.putfield 68, 3) := by decide +kernel
theorem dX4_init_127 : decode cX4_init 127 = .ok (.return_, 1) := by decide +kernel
theorem dX4_fill_0 : decode cX4_fill 0 = .ok (.aload_n 0, 1) := by decide +kernel
theorem dX4_fill_1 : decode cX4_fill 1 = .ok (.iload_n 2, 1) := by decide +kernel
theorem dX4_fill_2 : decode cX4_fill 2 = .ok (.putfield 21, 3) := by decide +kernel
theorem dX4_fill_5 : decode cX4_fill 5 = .ok (.aload_n 0, 1) := by decide +kernel
theorem dX4_fill_6 : decode cX4_fill 6 = .ok (.iconst 0, 1) := by decide +kernel
theorem dX4_fill_7 : decode cX4_fill 7 = .ok (.putfield 27, 3) := by decide +kernel
theorem dX4_fill_10 : decode cX4_fill 10 = .ok (.aload_n 0, 1) := by decide +kernel
theorem dX4_fill_11 : decode cX4_fill 11 = .ok (.iconst 0, 1) := by decide +kernel
theorem dX4_fill_12 : decode cX4_fill 12 = .ok (.putfield 31, 3) := by decide +kernel
theorem dX4_fill_15 : decode cX4_fill 15 = .ok (.aload_n 0, 1) := by decide +kernel
theorem dX4_fill_16 : decode cX4_fill 16 = .ok (.iconst 0, 1) := by decide +kernel
theorem dX4_fill_17 : decode cX4_fill 17 = .ok (.putfield 34, 3) := by decide +kernel
theorem dX4_fill_20 : decode cX4_fill 20 = .ok (.aload_n 0, 1) := by decide +kernel
theorem dX4_fill_21 : decode cX4_fill 21 = .ok (.getfield 53, 3) := by decide +kernel
theorem dX4_fill_24 : decode cX4_fill 24 = .ok (.iconst 0, 1) := by decide +kernel
theorem dX4_fill_25 : decode cX4_fill 25 = .ok (.aload_n 0, 1) := by decide +kernel
theorem dX4_fill_26 : decode cX4_fill 26 = .ok (.getfield 21, 3) := by decide +kernel
theorem dX4_fill_29 : decode cX4_fill 29 = .ok (.invokestatic 71, 3) := by decide +kernel
theorem dX4_fill_32 : decode cX4_fill 32 = .ok (.lastore, 1) := by decide +kernel
theorem dX4_fill_33 : decode cX4_fill 33 = .ok (.aload_n 0, 1) := by decide +kernel
theorem dX4_fill_34 : decode cX4_fill 34 = .ok (.iconst 1, 1) := by decide +kernel
theorem dX4_fill_35 : decode cX4_fill 35 = .ok (.putfield 9, 3) := by decide +kernel
theorem dX4_fill_38 : decode cX4_fill 38 = .ok (.iconst 0, 1) := by decide +kernel
theorem dX4_fill_39 : decode cX4_fill 39 = .ok (.istore_n 3, 1) := by decide +kernel
theorem dX4_fill_40 : decode cX4_fill 40 = .ok (.iload_n 3, 1) := by decide +kernel
theorem dX4_fill_41 : decode cX4_fill 41 = .ok (.aload_n 0, 1) := by decide +kernel
theorem dX4_fill_42 : decode cX4_fill 42 = .ok (.getfield 21, 3) := by decide +kernel
theorem dX4_fill_45 : decode cX4_fill 45 = .ok (.if_icmp .ge 53, 3) := by decide +kernel
theorem dX4_fill_48 : decode cX4_fill 48 = .ok (.aload_n 1, 1) := by decide +kernel
theorem dX4_fill_49 : decode cX4_fill 49 = .ok (.iload_n 3, 1) := by decide +kernel
theorem dX4_fill_50 : decode cX4_fill 50 = .ok (.invokevirtual 77, 3) := by decide +kernel
theorem dX4_fill_53 : decode cX4_fill 53 = .ok (.istore 4, 2) := by decide +kernel
theorem dX4_fill_55 : decode cX4_fill 55 = .ok (.iload 4, 2) := by decide +kernel
theorem dX4_fill_57 : decode cX4_fill 57 = .ok (.invokestatic 83, 3) := by decide +kernel
theorem dX4_fill_60 : decode cX4_fill 60 = .ok (.istore 5, 2) := by decide +kernel
theorem dX4_fill_62 : decode cX4_fill 62 = .ok (.iload 5, 2) := by decide +kernel
theorem dX4_fill_64 : decode cX4_fill 64 = .ok (.iconst 1, 1) := by decide +kernel
theorem dX4_fill_65 : decode cX4_fill 65 = .ok (.if_icmp .le 27, 3) := by decide +kernel
theorem dX4_fill_68 : decode cX4_fill 68 = .ok (.aload_n 0, 1) := by decide +kernel
theorem dX4_fill_69 : decode cX4_fill 69 = .ok (.getfield 9, 3) := by decide +kernel
theorem dX4_fill_72 : decode cX4_fill 72 = .ok (.iload 5, 2) := by decide +kernel
theorem dX4_fill_74 : decode cX4_fill 74 = .ok (.imul, 1) := by decide +kernel
theorem dX4_fill_75 : decode cX4_fill 75 = .ok (.aload_n 0, 1) := by decide +kernel
theorem dX4_fill_76 : decode cX4_fill 76 = .ok (.getfield 43, 3) := by decide +kernel
theorem dX4_fill_79 : decode cX4_fill 79 = .ok (.if_icmp .gt 13, 3) := by decide +kernel
theorem dX4_fill_82 : decode cX4_fill 82 = .ok (.aload_n 0, 1) := by decide +kernel
theorem dX4_fill_83 : decode cX4_fill 83 = .ok (.aload_n 1, 1) := by decide +kernel
theorem dX4_fill_84 : decode cX4_fill 84 = .ok (.iload_n 3, 1) := by decide +kernel
theorem dX4_fill_85 : decode cX4_fill 85 = .ok (.iload 4, 2) := by decide +kernel
theorem dX4_fill_87 : decode cX4_fill 87 = .ok (.iload 5, 2) := by decide +kernel
theorem dX4_fill_89 : decode cX4_fill 89 = .ok (.invokevirtual 88, 3) := by decide +kernel
theorem dX4_fill_92 : decode cX4_fill 92 = .ok (.iinc 3 1, 3) := by decide +kernel
theorem dX4_fill_95 : decode cX4_fill 95 = .ok (.goto (-55), 3) := by decide +kernel
theorem dX4_fill_98 : decode cX4_fill 98 = .ok (.return_, 1) := by decide +kernel
theorem dX4_widen_0 : decode cX4_widen 0 = .ok (.aload_n 0, 1) := by decide +kernel
theorem dX4_widen_1 : decode cX4_widen 1 = .ok (.getfield 9, 3) := by decide +kernel
theorem dX4_widen_4 : decode cX4_widen 4 = .ok (.iconst 1, 1) := by decide +kernel
theorem dX4_widen_5 : decode cX4_widen 5 = .ok (.isub, 1) := by decide +kernel
theorem dX4_widen_6 : decode cX4_widen 6 = .ok (.istore 5, 2) := by decide +kernel
theorem dX4_widen_8 : decode cX4_widen 8 = .ok (.iload 5, 2) := by decide +kernel
theorem dX4_widen_10 : decode cX4_widen 10 = .ok (.ifCond .lt 107, 3) := by decide +kernel
theorem dX4_widen_13 : decode cX4_widen 13 = .ok (.aload_n 0, 1) := by decide +kernel
theorem dX4_widen_14 : decode cX4_widen 14 = .ok (.getfield 53, 3) := by decide +kernel
theorem dX4_widen_17 : decode cX4_widen 17 = .ok (.iload 5, 2) := by decide +kernel
theorem dX4_widen_19 : decode cX4_widen 19 = .ok (.laload, 1) := by decide +kernel
theorem dX4_widen_20 : decode cX4_widen 20 = .ok (.lstore 6, 2) := by decide +kernel
theorem dX4_widen_22 : decode cX4_widen 22 = .ok (.lload 6, 2) := by decide +kernel
theorem dX4_widen_24 : decode cX4_widen 24 = .ok (.aload_n 0, 1) := by decide +kernel
theorem dX4_widen_25 : decode cX4_widen 25 = .ok (.getfield 21, 3) := by decide +kernel
theorem dX4_widen_28 : decode cX4_widen 28 = .ok (.invokestatic 92, 3) := by decide +kernel
theorem dX4_widen_31 : decode cX4_widen 31 = .ok (.lstore 8, 2) := by decide +kernel
theorem dX4_widen_33 : decode cX4_widen 33 = .ok (.iload 5, 2) := by decide +kernel
theorem dX4_widen_35 : decode cX4_widen 35 = .ok (.iload 4, 2) := by decide +kernel
theorem dX4_widen_37 : decode cX4_widen 37 = .ok (.imul, 1) := by decide +kernel
theorem dX4_widen_38 : decode cX4_widen 38 = .ok (.istore 10, 2) := by decide +kernel
theorem dX4_widen_40 : decode cX4_widen 40 = .ok (.iconst 0, 1) := by decide +kernel
theorem dX4_widen_41 : decode cX4_widen 41 = .ok (.istore 11, 2) := by decide +kernel
theorem dX4_widen_43 : decode cX4_widen 43 = .ok (.iload 11, 2) := by decide +kernel
theorem dX4_widen_45 : decode cX4_widen 45 = .ok (.aload_n 0, 1) := by decide +kernel
theorem dX4_widen_46 : decode cX4_widen 46 = .ok (.getfield 21, 3) := by decide +kernel
theorem dX4_widen_49 : decode cX4_widen 49 = .ok (.if_icmp .ge 62, 3) := by decide +kernel
theorem dX4_widen_52 : decode cX4_widen 52 = .ok (.iload 10, 2) := by decide +kernel
theorem dX4_widen_54 : decode cX4_widen 54 = .ok (.aload_n 0, 1) := by decide +kernel
theorem dX4_widen_55 : decode cX4_widen 55 = .ok (.getfield 43, 3) := by decide +kernel
theorem dX4_widen_58 : decode cX4_widen 58 = .ok (.if_icmp .ge 53, 3) := by decide +kernel
theorem dX4_widen_61 : decode cX4_widen 61 = .ok (.lload 8, 2) := by decide +kernel
theorem dX4_widen_63 : decode cX4_widen 63 = .ok (.iload 11, 2) := by decide +kernel
theorem dX4_widen_65 : decode cX4_widen 65 = .ok (.invokestatic 96, 3) := by decide +kernel
theorem dX4_widen_68 : decode cX4_widen 68 = .ok (.istore 12, 2) := by decide +kernel
theorem dX4_widen_70 : decode cX4_widen 70 = .ok (.iload_n 3, 1) := by decide +kernel
theorem dX4_widen_71 : decode cX4_widen 71 = .ok (.iload 12, 2) := by decide +kernel
theorem dX4_widen_73 : decode cX4_widen 73 = .ok (.ishr, 1) := by decide +kernel
theorem dX4_widen_74 : decode cX4_widen 74 = .ok (.iconst 1, 1) := by decide +kernel
theorem dX4_widen_75 : decode cX4_widen 75 = .ok (.iand, 1) := by decide +kernel
theorem dX4_widen_76 : decode cX4_widen 76 = .ok (.ifCond .eq 29, 3) := by decide +kernel
theorem dX4_widen_79 : decode cX4_widen 79 = .ok (.aload_n 0, 1) := by decide +kernel
theorem dX4_widen_80 : decode cX4_widen 80 = .ok (.getfield 53, 3) := by decide +kernel
theorem dX4_widen_83 : decode cX4_widen 83 = .ok (.iload 10, 2) := by decide +kernel
theorem dX4_widen_85 : decode cX4_widen 85 = .ok (.aload_n 1, 1) := by decide +kernel
theorem dX4_widen_86 : decode cX4_widen 86 = .ok (.iload_n 2, 1) := by decide +kernel
theorem dX4_widen_87 : decode cX4_widen 87 = .ok (.iload 12, 2) := by decide +kernel
theorem dX4_widen_89 : decode cX4_widen 89 = .ok (.invokevirtual 100, 3) := by decide +kernel
theorem dX4_widen_92 : decode cX4_widen 92 = .ok (.lload 6, 2) := by decide +kernel
theorem dX4_widen_94 : decode cX4_widen 94 = .ok (.aload_n 0, 1) := by decide +kernel
theorem dX4_widen_95 : decode cX4_widen 95 = .ok (.getfield 21, 3) := by decide +kernel
theorem dX4_widen_98 : decode cX4_widen 98 = .ok (.invokestatic 104, 3) := by decide +kernel
theorem dX4_widen_101 : decode cX4_widen 101 = .ok (.lastore, 1) := by decide +kernel
theorem dX4_widen_102 : decode cX4_widen 102 = .ok (.iinc 10 1, 3) := by decide +kernel
theorem dX4_widen_105 : decode cX4_widen 105 = .ok (.iinc 11 1, 3) := by decide +kernel
theorem dX4_widen_108 : decode cX4_widen 108 = .ok (.goto (-65), 3) := by decide +kernel
theorem dX4_widen_111 : decode cX4_widen 111 = .ok (.iinc 5 (-1), 3) := by decide +kernel
theorem dX4_widen_114 : decode cX4_widen 114 = .ok (.goto (-106), 3) := by decide +kernel
theorem dX4_widen_117 : decode cX4_widen 117 = .ok (.aload_n 0, 1) := by decide +kernel
theorem dX4_widen_118 : decode cX4_widen 118 = .ok (.dup, 1) := by decide +kernel
theorem dX4_widen_119 : decode cX4_widen 119 = .ok (.getfield 9, 3) := by decide +kernel
theorem dX4_widen_122 : decode cX4_widen 122 = .ok (.iload 4, 2) := by decide +kernel
theorem dX4_widen_124 : decode cX4_widen 124 = .ok (.imul, 1) := by decide +kernel
theorem dX4_widen_125 : decode cX4_widen 125 = .ok (.putfield 9, 3) := by decide +kernel
theorem dX4_widen_128 : decode cX4_widen 128 = .ok (.return_, 1) := by decide +kernel
theorem dX4_turnAt_0 : decode cX4_turnAt 0 = .ok (.iload_n 1, 1) := by decide +kernel
theorem dX4_turnAt_1 : decode cX4_turnAt 1 = .ok (.ifCond .lt 20, 3) := by decide +kernel
theorem dX4_turnAt_4 : decode cX4_turnAt 4 = .ok (.iload_n 1, 1) := by decide +kernel
theorem dX4_turnAt_5 : decode cX4_turnAt 5 = .ok (.aload_n 0, 1) := by decide +kernel
theorem dX4_turnAt_6 : decode cX4_turnAt 6 = .ok (.getfield 9, 3) := by decide +kernel
theorem dX4_turnAt_9 : decode cX4_turnAt 9 = .ok (.if_icmp .ge 12, 3) := by decide +kernel
theorem dX4_turnAt_12 : decode cX4_turnAt 12 = .ok (.aload_n 0, 1) := by decide +kernel
theorem dX4_turnAt_13 : decode cX4_turnAt 13 = .ok (.getfield 53, 3) := by decide +kernel
theorem dX4_turnAt_16 : decode cX4_turnAt 16 = .ok (.iload_n 1, 1) := by decide +kernel
theorem dX4_turnAt_17 : decode cX4_turnAt 17 = .ok (.laload, 1) := by decide +kernel
theorem dX4_turnAt_18 : decode cX4_turnAt 18 = .ok (.goto 6, 3) := by decide +kernel
theorem dX4_turnAt_21 : decode cX4_turnAt 21 = .ok (.ldc2_w 108, 3) := by decide +kernel
theorem dX4_turnAt_24 : decode cX4_turnAt 24 = .ok (.lreturn, 1) := by decide +kernel
theorem dX4_find_0 : decode cX4_find 0 = .ok (.iconst 0, 1) := by decide +kernel
theorem dX4_find_1 : decode cX4_find 1 = .ok (.istore_n 3, 1) := by decide +kernel
theorem dX4_find_2 : decode cX4_find 2 = .ok (.aload_n 0, 1) := by decide +kernel
theorem dX4_find_3 : decode cX4_find 3 = .ok (.getfield 9, 3) := by decide +kernel
theorem dX4_find_6 : decode cX4_find 6 = .ok (.iconst 1, 1) := by decide +kernel
theorem dX4_find_7 : decode cX4_find 7 = .ok (.isub, 1) := by decide +kernel
theorem dX4_find_8 : decode cX4_find 8 = .ok (.istore 4, 2) := by decide +kernel
theorem dX4_find_10 : decode cX4_find 10 = .ok (.iconst 0, 1) := by decide +kernel
theorem dX4_find_11 : decode cX4_find 11 = .ok (.istore 5, 2) := by decide +kernel
theorem dX4_find_13 : decode cX4_find 13 = .ok (.iload 5, 2) := by decide +kernel
theorem dX4_find_15 : decode cX4_find 15 = .ok (.bipush 32, 2) := by decide +kernel
theorem dX4_find_17 : decode cX4_find 17 = .ok (.if_icmp .ge 63, 3) := by decide +kernel
theorem dX4_find_20 : decode cX4_find 20 = .ok (.iload_n 3, 1) := by decide +kernel
theorem dX4_find_21 : decode cX4_find 21 = .ok (.iload 4, 2) := by decide +kernel
theorem dX4_find_23 : decode cX4_find 23 = .ok (.if_icmp .gt 57, 3) := by decide +kernel
theorem dX4_find_26 : decode cX4_find 26 = .ok (.iload_n 3, 1) := by decide +kernel
theorem dX4_find_27 : decode cX4_find 27 = .ok (.iload 4, 2) := by decide +kernel
theorem dX4_find_29 : decode cX4_find 29 = .ok (.iadd, 1) := by decide +kernel
theorem dX4_find_30 : decode cX4_find 30 = .ok (.iconst 1, 1) := by decide +kernel
theorem dX4_find_31 : decode cX4_find 31 = .ok (.iushr, 1) := by decide +kernel
theorem dX4_find_32 : decode cX4_find 32 = .ok (.istore 6, 2) := by decide +kernel
theorem dX4_find_34 : decode cX4_find 34 = .ok (.aload_n 0, 1) := by decide +kernel
theorem dX4_find_35 : decode cX4_find 35 = .ok (.getfield 53, 3) := by decide +kernel
theorem dX4_find_38 : decode cX4_find 38 = .ok (.iload 6, 2) := by decide +kernel
theorem dX4_find_40 : decode cX4_find 40 = .ok (.laload, 1) := by decide +kernel
theorem dX4_find_41 : decode cX4_find 41 = .ok (.lstore 7, 2) := by decide +kernel
theorem dX4_find_43 : decode cX4_find 43 = .ok (.lload 7, 2) := by decide +kernel
theorem dX4_find_45 : decode cX4_find 45 = .ok (.lload_n 1, 1) := by decide +kernel
theorem dX4_find_46 : decode cX4_find 46 = .ok (.lcmp, 1) := by decide +kernel
theorem dX4_find_47 : decode cX4_find 47 = .ok (.ifCond .ne 6, 3) := by decide +kernel
theorem dX4_find_50 : decode cX4_find 50 = .ok (.iload 6, 2) := by decide +kernel
theorem dX4_find_52 : decode cX4_find 52 = .ok (.ireturn, 1) := by decide +kernel
theorem dX4_find_53 : decode cX4_find 53 = .ok (.lload 7, 2) := by decide +kernel
theorem dX4_find_55 : decode cX4_find 55 = .ok (.lload_n 1, 1) := by decide +kernel
theorem dX4_find_56 : decode cX4_find 56 = .ok (.lcmp, 1) := by decide +kernel
theorem dX4_find_57 : decode cX4_find 57 = .ok (.ifCond .ge 11, 3) := by decide +kernel
theorem dX4_find_60 : decode cX4_find 60 = .ok (.iload 6, 2) := by decide +kernel
theorem dX4_find_62 : decode cX4_find 62 = .ok (.iconst 1, 1) := by decide +kernel
theorem dX4_find_63 : decode cX4_find 63 = .ok (.iadd, 1) := by decide +kernel
theorem dX4_find_64 : decode cX4_find 64 = .ok (.istore_n 3, 1) := by decide +kernel
theorem dX4_find_65 : decode cX4_find 65 = .ok (.goto 9, 3) := by decide +kernel
theorem dX4_find_68 : decode cX4_find 68 = .ok (.iload 6, 2) := by decide +kernel
theorem dX4_find_70 : decode cX4_find 70 = .ok (.iconst 1, 1) := by decide +kernel
theorem dX4_find_71 : decode cX4_find 71 = .ok (.isub, 1) := by decide +kernel
theorem dX4_find_72 : decode cX4_find 72 = .ok (.istore 4, 2) := by decide +kernel
theorem dX4_find_74 : decode cX4_find 74 = .ok (.iinc 5 1, 3) := by decide +kernel
theorem dX4_find_77 : decode cX4_find 77 = .ok (.goto (-64), 3) := by decide +kernel
theorem dX4_find_80 : decode cX4_find 80 = .ok (.iconst (-1), 1) := by decide +kernel
theorem dX4_find_81 : decode cX4_find 81 = .ok (.ireturn, 1) := by decide +kernel
theorem dX4_measure_0 : decode cX4_measure 0 = .ok (.aload_n 0, 1) := by decide +kernel
theorem dX4_measure_1 : decode cX4_measure 1 = .ok (.getfield 27, 3) := by decide +kernel
theorem dX4_measure_4 : decode cX4_measure 4 = .ok (.ifCond .eq 4, 3) := by decide +kernel
theorem dX4_measure_7 : decode cX4_measure 7 = .ok (.return_, 1) := by decide +kernel
theorem dX4_measure_8 : decode cX4_measure 8 = .ok (.aload_n 0, 1) := by decide +kernel
theorem dX4_measure_9 : decode cX4_measure 9 = .ok (.iconst 2, 1) := by decide +kernel
theorem dX4_measure_10 : decode cX4_measure 10 = .ok (.iload_n 2, 1) := by decide +kernel
theorem dX4_measure_11 : decode cX4_measure 11 = .ok (.imul, 1) := by decide +kernel
theorem dX4_measure_12 : decode cX4_measure 12 = .ok (.putfield 24, 3) := by decide +kernel
theorem dX4_measure_15 : decode cX4_measure 15 = .ok (.iconst 0, 1) := by decide +kernel
theorem dX4_measure_16 : decode cX4_measure 16 = .ok (.istore_n 3, 1) := by decide +kernel
theorem dX4_measure_17 : decode cX4_measure 17 = .ok (.iload_n 3, 1) := by decide +kernel
theorem dX4_measure_18 : decode cX4_measure 18 = .ok (.iload_n 2, 1) := by decide +kernel
theorem dX4_measure_19 : decode cX4_measure 19 = .ok (.if_icmp .ge 34, 3) := by decide +kernel
theorem dX4_measure_22 : decode cX4_measure 22 = .ok (.aload_n 0, 1) := by decide +kernel
theorem dX4_measure_23 : decode cX4_measure 23 = .ok (.aload_n 1, 1) := by decide +kernel
theorem dX4_measure_24 : decode cX4_measure 24 = .ok (.iload_n 3, 1) := by decide +kernel
theorem dX4_measure_25 : decode cX4_measure 25 = .ok (.laload, 1) := by decide +kernel
theorem dX4_measure_26 : decode cX4_measure 26 = .ok (.aload_n 0, 1) := by decide +kernel
theorem dX4_measure_27 : decode cX4_measure 27 = .ok (.getfield 68, 3) := by decide +kernel
theorem dX4_measure_30 : decode cX4_measure 30 = .ok (.iconst 2, 1) := by decide +kernel
theorem dX4_measure_31 : decode cX4_measure 31 = .ok (.iload_n 3, 1) := by decide +kernel
theorem dX4_measure_32 : decode cX4_measure 32 = .ok (.imul, 1) := by decide +kernel
theorem dX4_measure_33 : decode cX4_measure 33 = .ok (.aaload, 1) := by decide +kernel
theorem dX4_measure_34 : decode cX4_measure 34 = .ok (.aload_n 0, 1) := by decide +kernel
theorem dX4_measure_35 : decode cX4_measure 35 = .ok (.getfield 68, 3) := by decide +kernel
theorem dX4_measure_38 : decode cX4_measure 38 = .ok (.iconst 2, 1) := by decide +kernel
theorem dX4_measure_39 : decode cX4_measure 39 = .ok (.iload_n 3, 1) := by decide +kernel
theorem dX4_measure_40 : decode cX4_measure 40 = .ok (.imul, 1) := by decide +kernel
theorem dX4_measure_41 : decode cX4_measure 41 = .ok (.iconst 1, 1) := by decide +kernel
theorem dX4_measure_42 : decode cX4_measure 42 = .ok (.iadd, 1) := by decide +kernel
theorem dX4_measure_43 : decode cX4_measure 43 = .ok (.aaload, 1) := by decide +kernel
theorem dX4_measure_44 : decode cX4_measure 44 = .ok (.invokevirtual 110, 3) := by decide +kernel
theorem dX4_measure_47 : decode cX4_measure 47 = .ok (.iinc 3 1, 3) := by decide +kernel
theorem dX4_measure_50 : decode cX4_measure 50 = .ok (.goto (-33), 3) := by decide +kernel
theorem dX4_measure_53 : decode cX4_measure 53 = .ok (.iconst 0, 1) := by decide +kernel
theorem dX4_measure_54 : decode cX4_measure 54 = .ok (.istore_n 3, 1) := by decide +kernel
theorem dX4_measure_55 : decode cX4_measure 55 = .ok (.iload_n 3, 1) := by decide +kernel
theorem dX4_measure_56 : decode cX4_measure 56 = .ok (.aload_n 0, 1) := by decide +kernel
theorem dX4_measure_57 : decode cX4_measure 57 = .ok (.getfield 9, 3) := by decide +kernel
theorem dX4_measure_60 : decode cX4_measure 60 = .ok (.if_icmp .ge 16, 3) := by decide +kernel
theorem dX4_measure_63 : decode cX4_measure 63 = .ok (.aload_n 0, 1) := by decide +kernel
theorem dX4_measure_64 : decode cX4_measure 64 = .ok (.getfield 46, 3) := by decide +kernel
theorem dX4_measure_67 : decode cX4_measure 67 = .ok (.iload_n 3, 1) := by decide +kernel
theorem dX4_measure_68 : decode cX4_measure 68 = .ok (.iconst (-1), 1) := by decide +kernel
theorem dX4_measure_69 : decode cX4_measure 69 = .ok (.iastore, 1) := by decide +kernel
theorem dX4_measure_70 : decode cX4_measure 70 = .ok (.iinc 3 1, 3) := by decide +kernel
theorem dX4_measure_73 : decode cX4_measure 73 = .ok (.goto (-18), 3) := by decide +kernel
theorem dX4_measure_76 : decode cX4_measure 76 = .ok (.aload_n 0, 1) := by decide +kernel
theorem dX4_measure_77 : decode cX4_measure 77 = .ok (.getfield 46, 3) := by decide +kernel
theorem dX4_measure_80 : decode cX4_measure 80 = .ok (.iconst 0, 1) := by decide +kernel
theorem dX4_measure_81 : decode cX4_measure 81 = .ok (.iconst 0, 1) := by decide +kernel
theorem dX4_measure_82 : decode cX4_measure 82 = .ok (.iastore, 1) := by decide +kernel
theorem dX4_measure_83 : decode cX4_measure 83 = .ok (.aload_n 0, 1) := by decide +kernel
theorem dX4_measure_84 : decode cX4_measure 84 = .ok (.getfield 63, 3) := by decide +kernel
theorem dX4_measure_87 : decode cX4_measure 87 = .ok (.iconst 0, 1) := by decide +kernel
theorem dX4_measure_88 : decode cX4_measure 88 = .ok (.iconst 0, 1) := by decide +kernel
theorem dX4_measure_89 : decode cX4_measure 89 = .ok (.iastore, 1) := by decide +kernel
theorem dX4_measure_90 : decode cX4_measure 90 = .ok (.iconst 1, 1) := by decide +kernel
theorem dX4_measure_91 : decode cX4_measure 91 = .ok (.istore_n 3, 1) := by decide +kernel
theorem dX4_measure_92 : decode cX4_measure 92 = .ok (.iconst 0, 1) := by decide +kernel
theorem dX4_measure_93 : decode cX4_measure 93 = .ok (.istore 4, 2) := by decide +kernel
theorem dX4_measure_95 : decode cX4_measure 95 = .ok (.iload 4, 2) := by decide +kernel
theorem dX4_measure_97 : decode cX4_measure 97 = .ok (.iload_n 3, 1) := by decide +kernel
theorem dX4_measure_98 : decode cX4_measure 98 = .ok (.if_icmp .ge 31, 3) := by decide +kernel
theorem dX4_measure_101 : decode cX4_measure 101 = .ok (.iload 4, 2) := by decide +kernel
theorem dX4_measure_103 : decode cX4_measure 103 = .ok (.aload_n 0, 1) := by decide +kernel
theorem dX4_measure_104 : decode cX4_measure 104 = .ok (.getfield 9, 3) := by decide +kernel
theorem dX4_measure_107 : decode cX4_measure 107 = .ok (.if_icmp .ge 22, 3) := by decide +kernel
theorem dX4_measure_110 : decode cX4_measure 110 = .ok (.aload_n 0, 1) := by decide +kernel
theorem dX4_measure_111 : decode cX4_measure 111 = .ok (.aload_n 0, 1) := by decide +kernel
theorem dX4_measure_112 : decode cX4_measure 112 = .ok (.getfield 63, 3) := by decide +kernel
theorem dX4_measure_115 : decode cX4_measure 115 = .ok (.iload 4, 2) := by decide +kernel
theorem dX4_measure_117 : decode cX4_measure 117 = .ok (.iaload, 1) := by decide +kernel
theorem dX4_measure_118 : decode cX4_measure 118 = .ok (.iload_n 3, 1) := by decide +kernel
theorem dX4_measure_119 : decode cX4_measure 119 = .ok (.invokevirtual 114, 3) := by decide +kernel
theorem dX4_measure_122 : decode cX4_measure 122 = .ok (.istore_n 3, 1) := by decide +kernel
theorem dX4_measure_123 : decode cX4_measure 123 = .ok (.iinc 4 1, 3) := by decide +kernel
theorem dX4_measure_126 : decode cX4_measure 126 = .ok (.goto (-31), 3) := by decide +kernel
theorem dX4_measure_129 : decode cX4_measure 129 = .ok (.aload_n 0, 1) := by decide +kernel
theorem dX4_measure_130 : decode cX4_measure 130 = .ok (.aload_n 0, 1) := by decide +kernel
theorem dX4_measure_131 : decode cX4_measure 131 = .ok (.getfield 46, 3) := by decide +kernel
theorem dX4_measure_134 : decode cX4_measure 134 = .ok (.aload_n 0, 1) := by decide +kernel
theorem dX4_measure_135 : decode cX4_measure 135 = .ok (.getfield 63, 3) := by decide +kernel
theorem dX4_measure_138 : decode cX4_measure 138 = .ok (.iload_n 3, 1) := by decide +kernel
theorem dX4_measure_139 : decode cX4_measure 139 = .ok (.iconst 1, 1) := by decide +kernel
theorem dX4_measure_140 : decode cX4_measure 140 = .ok (.isub, 1) := by decide +kernel
theorem dX4_measure_141 : decode cX4_measure 141 = .ok (.iaload, 1) := by decide +kernel
theorem dX4_measure_142 : decode cX4_measure 142 = .ok (.iaload, 1) := by decide +kernel
theorem dX4_measure_143 : decode cX4_measure 143 = .ok (.putfield 15, 3) := by decide +kernel
theorem dX4_measure_146 : decode cX4_measure 146 = .ok (.aload_n 0, 1) := by decide +kernel
theorem dX4_measure_147 : decode cX4_measure 147 = .ok (.iconst 1, 1) := by decide +kernel
theorem dX4_measure_148 : decode cX4_measure 148 = .ok (.putfield 27, 3) := by decide +kernel
theorem dX4_measure_151 : decode cX4_measure 151 = .ok (.return_, 1) := by decide +kernel
theorem dX4_followMove_0 : decode cX4_followMove 0 = .ok (.iconst 0, 1) := by decide +kernel
theorem dX4_followMove_1 : decode cX4_followMove 1 = .ok (.istore 5, 2) := by decide +kernel
theorem dX4_followMove_3 : decode cX4_followMove 3 = .ok (.iload 5, 2) := by decide +kernel
theorem dX4_followMove_5 : decode cX4_followMove 5 = .ok (.aload_n 0, 1) := by decide +kernel
theorem dX4_followMove_6 : decode cX4_followMove 6 = .ok (.getfield 9, 3) := by decide +kernel
theorem dX4_followMove_9 : decode cX4_followMove 9 = .ok (.if_icmp .ge 48, 3) := by decide +kernel
theorem dX4_followMove_12 : decode cX4_followMove 12 = .ok (.aload_n 0, 1) := by decide +kernel
theorem dX4_followMove_13 : decode cX4_followMove 13 = .ok (.aload_n 0, 1) := by decide +kernel
theorem dX4_followMove_14 : decode cX4_followMove 14 = .ok (.getfield 53, 3) := by decide +kernel
theorem dX4_followMove_17 : decode cX4_followMove 17 = .ok (.iload 5, 2) := by decide +kernel
theorem dX4_followMove_19 : decode cX4_followMove 19 = .ok (.laload, 1) := by decide +kernel
theorem dX4_followMove_20 : decode cX4_followMove 20 = .ok (.lload_n 1, 1) := by decide +kernel
theorem dX4_followMove_21 : decode cX4_followMove 21 = .ok (.aload_n 0, 1) := by decide +kernel
theorem dX4_followMove_22 : decode cX4_followMove 22 = .ok (.getfield 21, 3) := by decide +kernel
theorem dX4_followMove_25 : decode cX4_followMove 25 = .ok (.invokestatic 104, 3) := by decide +kernel
theorem dX4_followMove_28 : decode cX4_followMove 28 = .ok (.invokevirtual 117, 3) := by decide +kernel
theorem dX4_followMove_31 : decode cX4_followMove 31 = .ok (.istore 6, 2) := by decide +kernel
theorem dX4_followMove_33 : decode cX4_followMove 33 = .ok (.iload 6, 2) := by decide +kernel
theorem dX4_followMove_35 : decode cX4_followMove 35 = .ok (.ifCond .lt 16, 3) := by decide +kernel
theorem dX4_followMove_38 : decode cX4_followMove 38 = .ok (.aload_n 3, 1) := by decide +kernel
theorem dX4_followMove_39 : decode cX4_followMove 39 = .ok (.iload 5, 2) := by decide +kernel
theorem dX4_followMove_41 : decode cX4_followMove 41 = .ok (.iload 6, 2) := by decide +kernel
theorem dX4_followMove_43 : decode cX4_followMove 43 = .ok (.iastore, 1) := by decide +kernel
theorem dX4_followMove_44 : decode cX4_followMove 44 = .ok (.aload 4, 2) := by decide +kernel
theorem dX4_followMove_46 : decode cX4_followMove 46 = .ok (.iload 6, 2) := by decide +kernel
theorem dX4_followMove_48 : decode cX4_followMove 48 = .ok (.iload 5, 2) := by decide +kernel
theorem dX4_followMove_50 : decode cX4_followMove 50 = .ok (.iastore, 1) := by decide +kernel
theorem dX4_followMove_51 : decode cX4_followMove 51 = .ok (.iinc 5 1, 3) := by decide +kernel
theorem dX4_followMove_54 : decode cX4_followMove 54 = .ok (.goto (-51), 3) := by decide +kernel
theorem dX4_followMove_57 : decode cX4_followMove 57 = .ok (.return_, 1) := by decide +kernel
theorem dX4_reachFrom_0 : decode cX4_reachFrom 0 = .ok (.iload_n 2, 1) := by decide +kernel
theorem dX4_reachFrom_1 : decode cX4_reachFrom 1 = .ok (.istore_n 3, 1) := by decide +kernel
theorem dX4_reachFrom_2 : decode cX4_reachFrom 2 = .ok (.iconst 0, 1) := by decide +kernel
theorem dX4_reachFrom_3 : decode cX4_reachFrom 3 = .ok (.istore 4, 2) := by decide +kernel
theorem dX4_reachFrom_5 : decode cX4_reachFrom 5 = .ok (.iload 4, 2) := by decide +kernel
theorem dX4_reachFrom_7 : decode cX4_reachFrom 7 = .ok (.aload_n 0, 1) := by decide +kernel
theorem dX4_reachFrom_8 : decode cX4_reachFrom 8 = .ok (.getfield 24, 3) := by decide +kernel
theorem dX4_reachFrom_11 : decode cX4_reachFrom 11 = .ok (.if_icmp .ge 74, 3) := by decide +kernel
theorem dX4_reachFrom_14 : decode cX4_reachFrom 14 = .ok (.iload_n 3, 1) := by decide +kernel
theorem dX4_reachFrom_15 : decode cX4_reachFrom 15 = .ok (.aload_n 0, 1) := by decide +kernel
theorem dX4_reachFrom_16 : decode cX4_reachFrom 16 = .ok (.getfield 9, 3) := by decide +kernel
theorem dX4_reachFrom_19 : decode cX4_reachFrom 19 = .ok (.if_icmp .ge 66, 3) := by decide +kernel
theorem dX4_reachFrom_22 : decode cX4_reachFrom 22 = .ok (.aload_n 0, 1) := by decide +kernel
theorem dX4_reachFrom_23 : decode cX4_reachFrom 23 = .ok (.getfield 68, 3) := by decide +kernel
theorem dX4_reachFrom_26 : decode cX4_reachFrom 26 = .ok (.iload 4, 2) := by decide +kernel
theorem dX4_reachFrom_28 : decode cX4_reachFrom 28 = .ok (.aaload, 1) := by decide +kernel
theorem dX4_reachFrom_29 : decode cX4_reachFrom 29 = .ok (.iload_n 1, 1) := by decide +kernel
theorem dX4_reachFrom_30 : decode cX4_reachFrom 30 = .ok (.iaload, 1) := by decide +kernel
theorem dX4_reachFrom_31 : decode cX4_reachFrom 31 = .ok (.istore 5, 2) := by decide +kernel
theorem dX4_reachFrom_33 : decode cX4_reachFrom 33 = .ok (.aload_n 0, 1) := by decide +kernel
theorem dX4_reachFrom_34 : decode cX4_reachFrom 34 = .ok (.getfield 46, 3) := by decide +kernel
theorem dX4_reachFrom_37 : decode cX4_reachFrom 37 = .ok (.iload 5, 2) := by decide +kernel
theorem dX4_reachFrom_39 : decode cX4_reachFrom 39 = .ok (.iaload, 1) := by decide +kernel
theorem dX4_reachFrom_40 : decode cX4_reachFrom 40 = .ok (.iconst (-1), 1) := by decide +kernel
theorem dX4_reachFrom_41 : decode cX4_reachFrom 41 = .ok (.if_icmp .ne 38, 3) := by decide +kernel
theorem dX4_reachFrom_44 : decode cX4_reachFrom 44 = .ok (.aload_n 0, 1) := by decide +kernel
theorem dX4_reachFrom_45 : decode cX4_reachFrom 45 = .ok (.getfield 46, 3) := by decide +kernel
theorem dX4_reachFrom_48 : decode cX4_reachFrom 48 = .ok (.iload 5, 2) := by decide +kernel
theorem dX4_reachFrom_50 : decode cX4_reachFrom 50 = .ok (.aload_n 0, 1) := by decide +kernel
theorem dX4_reachFrom_51 : decode cX4_reachFrom 51 = .ok (.getfield 46, 3) := by decide +kernel
theorem dX4_reachFrom_54 : decode cX4_reachFrom 54 = .ok (.iload_n 1, 1) := by decide +kernel
theorem dX4_reachFrom_55 : decode cX4_reachFrom 55 = .ok (.iaload, 1) := by decide +kernel
theorem dX4_reachFrom_56 : decode cX4_reachFrom 56 = .ok (.iconst 1, 1) := by decide +kernel
theorem dX4_reachFrom_57 : decode cX4_reachFrom 57 = .ok (.iadd, 1) := by decide +kernel
theorem dX4_reachFrom_58 : decode cX4_reachFrom 58 = .ok (.iastore, 1) := by decide +kernel
theorem dX4_reachFrom_59 : decode cX4_reachFrom 59 = .ok (.aload_n 0, 1) := by decide +kernel
theorem dX4_reachFrom_60 : decode cX4_reachFrom 60 = .ok (.getfield 60, 3) := by decide +kernel
theorem dX4_reachFrom_63 : decode cX4_reachFrom 63 = .ok (.iload 5, 2) := by decide +kernel
theorem dX4_reachFrom_65 : decode cX4_reachFrom 65 = .ok (.iload 4, 2) := by decide +kernel
theorem dX4_reachFrom_67 : decode cX4_reachFrom 67 = .ok (.iastore, 1) := by decide +kernel
theorem dX4_reachFrom_68 : decode cX4_reachFrom 68 = .ok (.aload_n 0, 1) := by decide +kernel
theorem dX4_reachFrom_69 : decode cX4_reachFrom 69 = .ok (.getfield 63, 3) := by decide +kernel
theorem dX4_reachFrom_72 : decode cX4_reachFrom 72 = .ok (.iload_n 3, 1) := by decide +kernel
theorem dX4_reachFrom_73 : decode cX4_reachFrom 73 = .ok (.iload 5, 2) := by decide +kernel
theorem dX4_reachFrom_75 : decode cX4_reachFrom 75 = .ok (.iastore, 1) := by decide +kernel
theorem dX4_reachFrom_76 : decode cX4_reachFrom 76 = .ok (.iinc 3 1, 3) := by decide +kernel
theorem dX4_reachFrom_79 : decode cX4_reachFrom 79 = .ok (.iinc 4 1, 3) := by decide +kernel
theorem dX4_reachFrom_82 : decode cX4_reachFrom 82 = .ok (.goto (-77), 3) := by decide +kernel
theorem dX4_reachFrom_85 : decode cX4_reachFrom 85 = .ok (.iload_n 3, 1) := by decide +kernel
theorem dX4_reachFrom_86 : decode cX4_reachFrom 86 = .ok (.ireturn, 1) := by decide +kernel
theorem dX4_countDeep_0 : decode cX4_countDeep 0 = .ok (.iconst 0, 1) := by decide +kernel
theorem dX4_countDeep_1 : decode cX4_countDeep 1 = .ok (.istore_n 2, 1) := by decide +kernel
theorem dX4_countDeep_2 : decode cX4_countDeep 2 = .ok (.iconst 0, 1) := by decide +kernel
theorem dX4_countDeep_3 : decode cX4_countDeep 3 = .ok (.istore_n 3, 1) := by decide +kernel
theorem dX4_countDeep_4 : decode cX4_countDeep 4 = .ok (.iload_n 3, 1) := by decide +kernel
theorem dX4_countDeep_5 : decode cX4_countDeep 5 = .ok (.aload_n 0, 1) := by decide +kernel
theorem dX4_countDeep_6 : decode cX4_countDeep 6 = .ok (.getfield 9, 3) := by decide +kernel
theorem dX4_countDeep_9 : decode cX4_countDeep 9 = .ok (.if_icmp .ge 22, 3) := by decide +kernel
theorem dX4_countDeep_12 : decode cX4_countDeep 12 = .ok (.aload_n 0, 1) := by decide +kernel
theorem dX4_countDeep_13 : decode cX4_countDeep 13 = .ok (.getfield 46, 3) := by decide +kernel
theorem dX4_countDeep_16 : decode cX4_countDeep 16 = .ok (.iload_n 3, 1) := by decide +kernel
theorem dX4_countDeep_17 : decode cX4_countDeep 17 = .ok (.iaload, 1) := by decide +kernel
theorem dX4_countDeep_18 : decode cX4_countDeep 18 = .ok (.iload_n 1, 1) := by decide +kernel
theorem dX4_countDeep_19 : decode cX4_countDeep 19 = .ok (.if_icmp .ne 6, 3) := by decide +kernel
theorem dX4_countDeep_22 : decode cX4_countDeep 22 = .ok (.iinc 2 1, 3) := by decide +kernel
theorem dX4_countDeep_25 : decode cX4_countDeep 25 = .ok (.iinc 3 1, 3) := by decide +kernel
theorem dX4_countDeep_28 : decode cX4_countDeep 28 = .ok (.goto (-24), 3) := by decide +kernel
theorem dX4_countDeep_31 : decode cX4_countDeep 31 = .ok (.iload_n 2, 1) := by decide +kernel
theorem dX4_countDeep_32 : decode cX4_countDeep 32 = .ok (.ireturn, 1) := by decide +kernel
theorem dX4_firstDeep_0 : decode cX4_firstDeep 0 = .ok (.iconst 0, 1) := by decide +kernel
theorem dX4_firstDeep_1 : decode cX4_firstDeep 1 = .ok (.istore_n 2, 1) := by decide +kernel
theorem dX4_firstDeep_2 : decode cX4_firstDeep 2 = .ok (.iload_n 2, 1) := by decide +kernel
theorem dX4_firstDeep_3 : decode cX4_firstDeep 3 = .ok (.aload_n 0, 1) := by decide +kernel
theorem dX4_firstDeep_4 : decode cX4_firstDeep 4 = .ok (.getfield 9, 3) := by decide +kernel
theorem dX4_firstDeep_7 : decode cX4_firstDeep 7 = .ok (.if_icmp .ge 21, 3) := by decide +kernel
theorem dX4_firstDeep_10 : decode cX4_firstDeep 10 = .ok (.aload_n 0, 1) := by decide +kernel
theorem dX4_firstDeep_11 : decode cX4_firstDeep 11 = .ok (.getfield 46, 3) := by decide +kernel
theorem dX4_firstDeep_14 : decode cX4_firstDeep 14 = .ok (.iload_n 2, 1) := by decide +kernel
theorem dX4_firstDeep_15 : decode cX4_firstDeep 15 = .ok (.iaload, 1) := by decide +kernel
theorem dX4_firstDeep_16 : decode cX4_firstDeep 16 = .ok (.iload_n 1, 1) := by decide +kernel
theorem dX4_firstDeep_17 : decode cX4_firstDeep 17 = .ok (.if_icmp .ne 5, 3) := by decide +kernel
theorem dX4_firstDeep_20 : decode cX4_firstDeep 20 = .ok (.iload_n 2, 1) := by decide +kernel
theorem dX4_firstDeep_21 : decode cX4_firstDeep 21 = .ok (.ireturn, 1) := by decide +kernel
theorem dX4_firstDeep_22 : decode cX4_firstDeep 22 = .ok (.iinc 2 1, 3) := by decide +kernel
theorem dX4_firstDeep_25 : decode cX4_firstDeep 25 = .ok (.goto (-23), 3) := by decide +kernel
theorem dX4_firstDeep_28 : decode cX4_firstDeep 28 = .ok (.iconst (-1), 1) := by decide +kernel
theorem dX4_firstDeep_29 : decode cX4_firstDeep 29 = .ok (.ireturn, 1) := by decide +kernel
theorem dX4_sumOfDepths_0 : decode cX4_sumOfDepths 0 = .ok (.iconst 0, 1) := by decide +kernel
theorem dX4_sumOfDepths_1 : decode cX4_sumOfDepths 1 = .ok (.istore_n 1, 1) := by decide +kernel
theorem dX4_sumOfDepths_2 : decode cX4_sumOfDepths 2 = .ok (.iconst 0, 1) := by decide +kernel
theorem dX4_sumOfDepths_3 : decode cX4_sumOfDepths 3 = .ok (.istore_n 2, 1) := by decide +kernel
theorem dX4_sumOfDepths_4 : decode cX4_sumOfDepths 4 = .ok (.iload_n 2, 1) := by decide +kernel
theorem dX4_sumOfDepths_5 : decode cX4_sumOfDepths 5 = .ok (.aload_n 0, 1) := by decide +kernel
theorem dX4_sumOfDepths_6 : decode cX4_sumOfDepths 6 = .ok (.getfield 9, 3) := by decide +kernel
theorem dX4_sumOfDepths_9 : decode cX4_sumOfDepths 9 = .ok (.if_icmp .ge 18, 3) := by decide +kernel
theorem dX4_sumOfDepths_12 : decode cX4_sumOfDepths 12 = .ok (.iload_n 1, 1) := by decide +kernel
theorem dX4_sumOfDepths_13 : decode cX4_sumOfDepths 13 = .ok (.aload_n 0, 1) := by decide +kernel
theorem dX4_sumOfDepths_14 : decode cX4_sumOfDepths 14 = .ok (.getfield 46, 3) := by decide +kernel
theorem dX4_sumOfDepths_17 : decode cX4_sumOfDepths 17 = .ok (.iload_n 2, 1) := by decide +kernel
theorem dX4_sumOfDepths_18 : decode cX4_sumOfDepths 18 = .ok (.iaload, 1) := by decide +kernel
theorem dX4_sumOfDepths_19 : decode cX4_sumOfDepths 19 = .ok (.iadd, 1) := by decide +kernel
theorem dX4_sumOfDepths_20 : decode cX4_sumOfDepths 20 = .ok (.istore_n 1, 1) := by decide +kernel
theorem dX4_sumOfDepths_21 : decode cX4_sumOfDepths 21 = .ok (.iinc 2 1, 3) := by decide +kernel
theorem dX4_sumOfDepths_24 : decode cX4_sumOfDepths 24 = .ok (.goto (-20), 3) := by decide +kernel
theorem dX4_sumOfDepths_27 : decode cX4_sumOfDepths 27 = .ok (.iload_n 1, 1) := by decide +kernel
theorem dX4_sumOfDepths_28 : decode cX4_sumOfDepths 28 = .ok (.ireturn, 1) := by decide +kernel
theorem dX4_stepsCloser_0 : decode cX4_stepsCloser 0 = .ok (.iconst 0, 1) := by decide +kernel
theorem dX4_stepsCloser_1 : decode cX4_stepsCloser 1 = .ok (.istore_n 2, 1) := by decide +kernel
theorem dX4_stepsCloser_2 : decode cX4_stepsCloser 2 = .ok (.iconst 0, 1) := by decide +kernel
theorem dX4_stepsCloser_3 : decode cX4_stepsCloser 3 = .ok (.istore_n 3, 1) := by decide +kernel
theorem dX4_stepsCloser_4 : decode cX4_stepsCloser 4 = .ok (.iload_n 3, 1) := by decide +kernel
theorem dX4_stepsCloser_5 : decode cX4_stepsCloser 5 = .ok (.aload_n 0, 1) := by decide +kernel
theorem dX4_stepsCloser_6 : decode cX4_stepsCloser 6 = .ok (.getfield 24, 3) := by decide +kernel
theorem dX4_stepsCloser_9 : decode cX4_stepsCloser 9 = .ok (.if_icmp .ge 37, 3) := by decide +kernel
theorem dX4_stepsCloser_12 : decode cX4_stepsCloser 12 = .ok (.aload_n 0, 1) := by decide +kernel
theorem dX4_stepsCloser_13 : decode cX4_stepsCloser 13 = .ok (.getfield 46, 3) := by decide +kernel
theorem dX4_stepsCloser_16 : decode cX4_stepsCloser 16 = .ok (.aload_n 0, 1) := by decide +kernel
theorem dX4_stepsCloser_17 : decode cX4_stepsCloser 17 = .ok (.getfield 68, 3) := by decide +kernel
theorem dX4_stepsCloser_20 : decode cX4_stepsCloser 20 = .ok (.iload_n 3, 1) := by decide +kernel
theorem dX4_stepsCloser_21 : decode cX4_stepsCloser 21 = .ok (.aaload, 1) := by decide +kernel
theorem dX4_stepsCloser_22 : decode cX4_stepsCloser 22 = .ok (.iload_n 1, 1) := by decide +kernel
theorem dX4_stepsCloser_23 : decode cX4_stepsCloser 23 = .ok (.iaload, 1) := by decide +kernel
theorem dX4_stepsCloser_24 : decode cX4_stepsCloser 24 = .ok (.iaload, 1) := by decide +kernel
theorem dX4_stepsCloser_25 : decode cX4_stepsCloser 25 = .ok (.aload_n 0, 1) := by decide +kernel
theorem dX4_stepsCloser_26 : decode cX4_stepsCloser 26 = .ok (.getfield 46, 3) := by decide +kernel
theorem dX4_stepsCloser_29 : decode cX4_stepsCloser 29 = .ok (.iload_n 1, 1) := by decide +kernel
theorem dX4_stepsCloser_30 : decode cX4_stepsCloser 30 = .ok (.iaload, 1) := by decide +kernel
theorem dX4_stepsCloser_31 : decode cX4_stepsCloser 31 = .ok (.if_icmp .ge 9, 3) := by decide +kernel
theorem dX4_stepsCloser_34 : decode cX4_stepsCloser 34 = .ok (.iload_n 2, 1) := by decide +kernel
theorem dX4_stepsCloser_35 : decode cX4_stepsCloser 35 = .ok (.iconst 1, 1) := by decide +kernel
theorem dX4_stepsCloser_36 : decode cX4_stepsCloser 36 = .ok (.iload_n 3, 1) := by decide +kernel
theorem dX4_stepsCloser_37 : decode cX4_stepsCloser 37 = .ok (.ishl, 1) := by decide +kernel
theorem dX4_stepsCloser_38 : decode cX4_stepsCloser 38 = .ok (.ior, 1) := by decide +kernel
theorem dX4_stepsCloser_39 : decode cX4_stepsCloser 39 = .ok (.istore_n 2, 1) := by decide +kernel
theorem dX4_stepsCloser_40 : decode cX4_stepsCloser 40 = .ok (.iinc 3 1, 3) := by decide +kernel
theorem dX4_stepsCloser_43 : decode cX4_stepsCloser 43 = .ok (.goto (-39), 3) := by decide +kernel
theorem dX4_stepsCloser_46 : decode cX4_stepsCloser 46 = .ok (.iload_n 2, 1) := by decide +kernel
theorem dX4_stepsCloser_47 : decode cX4_stepsCloser 47 = .ok (.ireturn, 1) := by decide +kernel
theorem dX4_stepOfWay_0 : decode cX4_stepOfWay 0 = .ok (.iload_n 1, 1) := by decide +kernel
theorem dX4_stepOfWay_1 : decode cX4_stepOfWay 1 = .ok (.istore_n 3, 1) := by decide +kernel
theorem dX4_stepOfWay_2 : decode cX4_stepOfWay 2 = .ok (.aload_n 0, 1) := by decide +kernel
theorem dX4_stepOfWay_3 : decode cX4_stepOfWay 3 = .ok (.getfield 46, 3) := by decide +kernel
theorem dX4_stepOfWay_6 : decode cX4_stepOfWay 6 = .ok (.iload_n 1, 1) := by decide +kernel
theorem dX4_stepOfWay_7 : decode cX4_stepOfWay 7 = .ok (.iaload, 1) := by decide +kernel
theorem dX4_stepOfWay_8 : decode cX4_stepOfWay 8 = .ok (.iconst 1, 1) := by decide +kernel
theorem dX4_stepOfWay_9 : decode cX4_stepOfWay 9 = .ok (.isub, 1) := by decide +kernel
theorem dX4_stepOfWay_10 : decode cX4_stepOfWay 10 = .ok (.istore 4, 2) := by decide +kernel
theorem dX4_stepOfWay_12 : decode cX4_stepOfWay 12 = .ok (.iload 4, 2) := by decide +kernel
theorem dX4_stepOfWay_14 : decode cX4_stepOfWay 14 = .ok (.iload_n 2, 1) := by decide +kernel
theorem dX4_stepOfWay_15 : decode cX4_stepOfWay 15 = .ok (.if_icmp .le 25, 3) := by decide +kernel
theorem dX4_stepOfWay_18 : decode cX4_stepOfWay 18 = .ok (.aload_n 0, 1) := by decide +kernel
theorem dX4_stepOfWay_19 : decode cX4_stepOfWay 19 = .ok (.getfield 68, 3) := by decide +kernel
theorem dX4_stepOfWay_22 : decode cX4_stepOfWay 22 = .ok (.aload_n 0, 1) := by decide +kernel
theorem dX4_stepOfWay_23 : decode cX4_stepOfWay 23 = .ok (.getfield 60, 3) := by decide +kernel
theorem dX4_stepOfWay_26 : decode cX4_stepOfWay 26 = .ok (.iload_n 3, 1) := by decide +kernel
theorem dX4_stepOfWay_27 : decode cX4_stepOfWay 27 = .ok (.iaload, 1) := by decide +kernel
theorem dX4_stepOfWay_28 : decode cX4_stepOfWay 28 = .ok (.iconst 1, 1) := by decide +kernel
theorem dX4_stepOfWay_29 : decode cX4_stepOfWay 29 = .ok (.ixor, 1) := by decide +kernel
theorem dX4_stepOfWay_30 : decode cX4_stepOfWay 30 = .ok (.aaload, 1) := by decide +kernel
theorem dX4_stepOfWay_31 : decode cX4_stepOfWay 31 = .ok (.iload_n 3, 1) := by decide +kernel
theorem dX4_stepOfWay_32 : decode cX4_stepOfWay 32 = .ok (.iaload, 1) := by decide +kernel
theorem dX4_stepOfWay_33 : decode cX4_stepOfWay 33 = .ok (.istore_n 3, 1) := by decide +kernel
theorem dX4_stepOfWay_34 : decode cX4_stepOfWay 34 = .ok (.iinc 4 (-1), 3) := by decide +kernel
theorem dX4_stepOfWay_37 : decode cX4_stepOfWay 37 = .ok (.goto (-25), 3) := by decide +kernel
theorem dX4_stepOfWay_40 : decode cX4_stepOfWay 40 = .ok (.aload_n 0, 1) := by decide +kernel
theorem dX4_stepOfWay_41 : decode cX4_stepOfWay 41 = .ok (.getfield 60, 3) := by decide +kernel
theorem dX4_stepOfWay_44 : decode cX4_stepOfWay 44 = .ok (.iload_n 3, 1) := by decide +kernel
theorem dX4_stepOfWay_45 : decode cX4_stepOfWay 45 = .ok (.iaload, 1) := by decide +kernel
theorem dX4_stepOfWay_46 : decode cX4_stepOfWay 46 = .ok (.ireturn, 1) := by decide +kernel
theorem dX4_sort_0 : decode cX4_sort 0 = .ok (.aload_n 0, 1) := by decide +kernel
theorem dX4_sort_1 : decode cX4_sort 1 = .ok (.getfield 31, 3) := by decide +kernel
theorem dX4_sort_4 : decode cX4_sort 4 = .ok (.ifCond .eq 4, 3) := by decide +kernel
theorem dX4_sort_7 : decode cX4_sort 7 = .ok (.return_, 1) := by decide +kernel
theorem dX4_sort_8 : decode cX4_sort 8 = .ok (.iconst 0, 1) := by decide +kernel
theorem dX4_sort_9 : decode cX4_sort 9 = .ok (.istore_n 3, 1) := by decide +kernel
theorem dX4_sort_10 : decode cX4_sort 10 = .ok (.iload_n 3, 1) := by decide +kernel
theorem dX4_sort_11 : decode cX4_sort 11 = .ok (.aload_n 0, 1) := by decide +kernel
theorem dX4_sort_12 : decode cX4_sort 12 = .ok (.getfield 9, 3) := by decide +kernel
theorem dX4_sort_15 : decode cX4_sort 15 = .ok (.if_icmp .ge 16, 3) := by decide +kernel
theorem dX4_sort_18 : decode cX4_sort 18 = .ok (.aload_n 0, 1) := by decide +kernel
theorem dX4_sort_19 : decode cX4_sort 19 = .ok (.getfield 50, 3) := by decide +kernel
theorem dX4_sort_22 : decode cX4_sort 22 = .ok (.iload_n 3, 1) := by decide +kernel
theorem dX4_sort_23 : decode cX4_sort 23 = .ok (.iconst (-1), 1) := by decide +kernel
theorem dX4_sort_24 : decode cX4_sort 24 = .ok (.iastore, 1) := by decide +kernel
theorem dX4_sort_25 : decode cX4_sort 25 = .ok (.iinc 3 1, 3) := by decide +kernel
theorem dX4_sort_28 : decode cX4_sort 28 = .ok (.goto (-18), 3) := by decide +kernel
theorem dX4_sort_31 : decode cX4_sort 31 = .ok (.aload_n 0, 1) := by decide +kernel
theorem dX4_sort_32 : decode cX4_sort 32 = .ok (.iconst 0, 1) := by decide +kernel
theorem dX4_sort_33 : decode cX4_sort 33 = .ok (.putfield 18, 3) := by decide +kernel
theorem dX4_sort_36 : decode cX4_sort 36 = .ok (.iconst 0, 1) := by decide +kernel
theorem dX4_sort_37 : decode cX4_sort 37 = .ok (.istore_n 3, 1) := by decide +kernel
theorem dX4_sort_38 : decode cX4_sort 38 = .ok (.iload_n 3, 1) := by decide +kernel
theorem dX4_sort_39 : decode cX4_sort 39 = .ok (.aload_n 0, 1) := by decide +kernel
theorem dX4_sort_40 : decode cX4_sort 40 = .ok (.getfield 9, 3) := by decide +kernel
theorem dX4_sort_43 : decode cX4_sort 43 = .ok (.if_icmp .ge 36, 3) := by decide +kernel
theorem dX4_sort_46 : decode cX4_sort 46 = .ok (.aload_n 0, 1) := by decide +kernel
theorem dX4_sort_47 : decode cX4_sort 47 = .ok (.getfield 50, 3) := by decide +kernel
theorem dX4_sort_50 : decode cX4_sort 50 = .ok (.iload_n 3, 1) := by decide +kernel
theorem dX4_sort_51 : decode cX4_sort 51 = .ok (.iaload, 1) := by decide +kernel
theorem dX4_sort_52 : decode cX4_sort 52 = .ok (.iconst (-1), 1) := by decide +kernel
theorem dX4_sort_53 : decode cX4_sort 53 = .ok (.if_icmp .ne 20, 3) := by decide +kernel
theorem dX4_sort_56 : decode cX4_sort 56 = .ok (.aload_n 0, 1) := by decide +kernel
theorem dX4_sort_57 : decode cX4_sort 57 = .ok (.iload_n 3, 1) := by decide +kernel
theorem dX4_sort_58 : decode cX4_sort 58 = .ok (.aload_n 1, 1) := by decide +kernel
theorem dX4_sort_59 : decode cX4_sort 59 = .ok (.iload_n 2, 1) := by decide +kernel
theorem dX4_sort_60 : decode cX4_sort 60 = .ok (.invokevirtual 121, 3) := by decide +kernel
theorem dX4_sort_63 : decode cX4_sort 63 = .ok (.aload_n 0, 1) := by decide +kernel
theorem dX4_sort_64 : decode cX4_sort 64 = .ok (.dup, 1) := by decide +kernel
theorem dX4_sort_65 : decode cX4_sort 65 = .ok (.getfield 18, 3) := by decide +kernel
theorem dX4_sort_68 : decode cX4_sort 68 = .ok (.iconst 1, 1) := by decide +kernel
theorem dX4_sort_69 : decode cX4_sort 69 = .ok (.iadd, 1) := by decide +kernel
theorem dX4_sort_70 : decode cX4_sort 70 = .ok (.putfield 18, 3) := by decide +kernel
theorem dX4_sort_73 : decode cX4_sort 73 = .ok (.iinc 3 1, 3) := by decide +kernel
theorem dX4_sort_76 : decode cX4_sort 76 = .ok (.goto (-38), 3) := by decide +kernel
theorem dX4_sort_79 : decode cX4_sort 79 = .ok (.aload_n 0, 1) := by decide +kernel
theorem dX4_sort_80 : decode cX4_sort 80 = .ok (.iconst 1, 1) := by decide +kernel
theorem dX4_sort_81 : decode cX4_sort 81 = .ok (.putfield 31, 3) := by decide +kernel
theorem dX4_sort_84 : decode cX4_sort 84 = .ok (.return_, 1) := by decide +kernel
theorem dX4_gatherKin_0 : decode cX4_gatherKin 0 = .ok (.aload_n 0, 1) := by decide +kernel
theorem dX4_gatherKin_1 : decode cX4_gatherKin 1 = .ok (.getfield 50, 3) := by decide +kernel
theorem dX4_gatherKin_4 : decode cX4_gatherKin 4 = .ok (.iload_n 1, 1) := by decide +kernel
theorem dX4_gatherKin_5 : decode cX4_gatherKin 5 = .ok (.aload_n 0, 1) := by decide +kernel
theorem dX4_gatherKin_6 : decode cX4_gatherKin 6 = .ok (.getfield 18, 3) := by decide +kernel
theorem dX4_gatherKin_9 : decode cX4_gatherKin 9 = .ok (.iastore, 1) := by decide +kernel
theorem dX4_gatherKin_10 : decode cX4_gatherKin 10 = .ok (.aload_n 0, 1) := by decide +kernel
theorem dX4_gatherKin_11 : decode cX4_gatherKin 11 = .ok (.getfield 63, 3) := by decide +kernel
theorem dX4_gatherKin_14 : decode cX4_gatherKin 14 = .ok (.iconst 0, 1) := by decide +kernel
theorem dX4_gatherKin_15 : decode cX4_gatherKin 15 = .ok (.iload_n 1, 1) := by decide +kernel
theorem dX4_gatherKin_16 : decode cX4_gatherKin 16 = .ok (.iastore, 1) := by decide +kernel
theorem dX4_gatherKin_17 : decode cX4_gatherKin 17 = .ok (.iconst 1, 1) := by decide +kernel
theorem dX4_gatherKin_18 : decode cX4_gatherKin 18 = .ok (.istore 4, 2) := by decide +kernel
theorem dX4_gatherKin_20 : decode cX4_gatherKin 20 = .ok (.iconst 0, 1) := by decide +kernel
theorem dX4_gatherKin_21 : decode cX4_gatherKin 21 = .ok (.istore 5, 2) := by decide +kernel
theorem dX4_gatherKin_23 : decode cX4_gatherKin 23 = .ok (.iload 5, 2) := by decide +kernel
theorem dX4_gatherKin_25 : decode cX4_gatherKin 25 = .ok (.iload 4, 2) := by decide +kernel
theorem dX4_gatherKin_27 : decode cX4_gatherKin 27 = .ok (.if_icmp .ge 123, 3) := by decide +kernel
theorem dX4_gatherKin_30 : decode cX4_gatherKin 30 = .ok (.iload 5, 2) := by decide +kernel
theorem dX4_gatherKin_32 : decode cX4_gatherKin 32 = .ok (.aload_n 0, 1) := by decide +kernel
theorem dX4_gatherKin_33 : decode cX4_gatherKin 33 = .ok (.getfield 9, 3) := by decide +kernel
theorem dX4_gatherKin_36 : decode cX4_gatherKin 36 = .ok (.if_icmp .ge 114, 3) := by decide +kernel
theorem dX4_gatherKin_39 : decode cX4_gatherKin 39 = .ok (.iconst 0, 1) := by decide +kernel
theorem dX4_gatherKin_40 : decode cX4_gatherKin 40 = .ok (.istore 6, 2) := by decide +kernel
theorem dX4_gatherKin_42 : decode cX4_gatherKin 42 = .ok (.iload 6, 2) := by decide +kernel
theorem dX4_gatherKin_44 : decode cX4_gatherKin 44 = .ok (.aload_n 2, 1) := by decide +kernel
theorem dX4_gatherKin_45 : decode cX4_gatherKin 45 = .ok (.arraylength, 1) := by decide +kernel
theorem dX4_gatherKin_46 : decode cX4_gatherKin 46 = .ok (.if_icmp .ge 98, 3) := by decide +kernel
theorem dX4_gatherKin_49 : decode cX4_gatherKin 49 = .ok (.iload_n 3, 1) := by decide +kernel
theorem dX4_gatherKin_50 : decode cX4_gatherKin 50 = .ok (.iload 6, 2) := by decide +kernel
theorem dX4_gatherKin_52 : decode cX4_gatherKin 52 = .ok (.ishr, 1) := by decide +kernel
theorem dX4_gatherKin_53 : decode cX4_gatherKin 53 = .ok (.iconst 1, 1) := by decide +kernel
theorem dX4_gatherKin_54 : decode cX4_gatherKin 54 = .ok (.iand, 1) := by decide +kernel
theorem dX4_gatherKin_55 : decode cX4_gatherKin 55 = .ok (.ifCond .ne 6, 3) := by decide +kernel
theorem dX4_gatherKin_58 : decode cX4_gatherKin 58 = .ok (.goto 80, 3) := by decide +kernel
theorem dX4_gatherKin_61 : decode cX4_gatherKin 61 = .ok (.aload_n 0, 1) := by decide +kernel
theorem dX4_gatherKin_62 : decode cX4_gatherKin 62 = .ok (.aload_n 0, 1) := by decide +kernel
theorem dX4_gatherKin_63 : decode cX4_gatherKin 63 = .ok (.getfield 53, 3) := by decide +kernel
theorem dX4_gatherKin_66 : decode cX4_gatherKin 66 = .ok (.aload_n 0, 1) := by decide +kernel
theorem dX4_gatherKin_67 : decode cX4_gatherKin 67 = .ok (.getfield 63, 3) := by decide +kernel
theorem dX4_gatherKin_70 : decode cX4_gatherKin 70 = .ok (.iload 5, 2) := by decide +kernel
theorem dX4_gatherKin_72 : decode cX4_gatherKin 72 = .ok (.iaload, 1) := by decide +kernel
theorem dX4_gatherKin_73 : decode cX4_gatherKin 73 = .ok (.laload, 1) := by decide +kernel
theorem dX4_gatherKin_74 : decode cX4_gatherKin 74 = .ok (.aload_n 2, 1) := by decide +kernel
theorem dX4_gatherKin_75 : decode cX4_gatherKin 75 = .ok (.iload 6, 2) := by decide +kernel
theorem dX4_gatherKin_77 : decode cX4_gatherKin 77 = .ok (.laload, 1) := by decide +kernel
theorem dX4_gatherKin_78 : decode cX4_gatherKin 78 = .ok (.aload_n 0, 1) := by decide +kernel
theorem dX4_gatherKin_79 : decode cX4_gatherKin 79 = .ok (.getfield 21, 3) := by decide +kernel
theorem dX4_gatherKin_82 : decode cX4_gatherKin 82 = .ok (.invokestatic 125, 3) := by decide +kernel
theorem dX4_gatherKin_85 : decode cX4_gatherKin 85 = .ok (.invokevirtual 117, 3) := by decide +kernel
theorem dX4_gatherKin_88 : decode cX4_gatherKin 88 = .ok (.istore 7, 2) := by decide +kernel
theorem dX4_gatherKin_90 : decode cX4_gatherKin 90 = .ok (.iload 7, 2) := by decide +kernel
theorem dX4_gatherKin_92 : decode cX4_gatherKin 92 = .ok (.ifCond .lt 46, 3) := by decide +kernel
theorem dX4_gatherKin_95 : decode cX4_gatherKin 95 = .ok (.aload_n 0, 1) := by decide +kernel
theorem dX4_gatherKin_96 : decode cX4_gatherKin 96 = .ok (.getfield 50, 3) := by decide +kernel
theorem dX4_gatherKin_99 : decode cX4_gatherKin 99 = .ok (.iload 7, 2) := by decide +kernel
theorem dX4_gatherKin_101 : decode cX4_gatherKin 101 = .ok (.iaload, 1) := by decide +kernel
theorem dX4_gatherKin_102 : decode cX4_gatherKin 102 = .ok (.iconst (-1), 1) := by decide +kernel
theorem dX4_gatherKin_103 : decode cX4_gatherKin 103 = .ok (.if_icmp .ne 35, 3) := by decide +kernel
theorem dX4_gatherKin_106 : decode cX4_gatherKin 106 = .ok (.iload 4, 2) := by decide +kernel
theorem dX4_gatherKin_108 : decode cX4_gatherKin 108 = .ok (.aload_n 0, 1) := by decide +kernel
theorem dX4_gatherKin_109 : decode cX4_gatherKin 109 = .ok (.getfield 43, 3) := by decide +kernel
theorem dX4_gatherKin_112 : decode cX4_gatherKin 112 = .ok (.if_icmp .ge 26, 3) := by decide +kernel
theorem dX4_gatherKin_115 : decode cX4_gatherKin 115 = .ok (.aload_n 0, 1) := by decide +kernel
theorem dX4_gatherKin_116 : decode cX4_gatherKin 116 = .ok (.getfield 50, 3) := by decide +kernel
theorem dX4_gatherKin_119 : decode cX4_gatherKin 119 = .ok (.iload 7, 2) := by decide +kernel
theorem dX4_gatherKin_121 : decode cX4_gatherKin 121 = .ok (.aload_n 0, 1) := by decide +kernel
theorem dX4_gatherKin_122 : decode cX4_gatherKin 122 = .ok (.getfield 18, 3) := by decide +kernel
theorem dX4_gatherKin_125 : decode cX4_gatherKin 125 = .ok (.iastore, 1) := by decide +kernel
theorem dX4_gatherKin_126 : decode cX4_gatherKin 126 = .ok (.aload_n 0, 1) := by decide +kernel
theorem dX4_gatherKin_127 : decode cX4_gatherKin 127 = .ok (.getfield 63, 3) := by decide +kernel
theorem dX4_gatherKin_130 : decode cX4_gatherKin 130 = .ok (.iload 4, 2) := by decide +kernel
theorem dX4_gatherKin_132 : decode cX4_gatherKin 132 = .ok (.iload 7, 2) := by decide +kernel
theorem dX4_gatherKin_134 : decode cX4_gatherKin 134 = .ok (.iastore, 1) := by decide +kernel
theorem dX4_gatherKin_135 : decode cX4_gatherKin 135 = .ok (.iinc 4 1, 3) := by decide +kernel
theorem dX4_gatherKin_138 : decode cX4_gatherKin 138 = .ok (.iinc 6 1, 3) := by decide +kernel
theorem dX4_gatherKin_141 : decode cX4_gatherKin 141 = .ok (.goto (-99), 3) := by decide +kernel
theorem dX4_gatherKin_144 : decode cX4_gatherKin 144 = .ok (.iinc 5 1, 3) := by decide +kernel
theorem dX4_gatherKin_147 : decode cX4_gatherKin 147 = .ok (.goto (-124), 3) := by decide +kernel
theorem dX4_gatherKin_150 : decode cX4_gatherKin 150 = .ok (.return_, 1) := by decide +kernel
theorem dX4_countKin_0 : decode cX4_countKin 0 = .ok (.iconst 0, 1) := by decide +kernel
theorem dX4_countKin_1 : decode cX4_countKin 1 = .ok (.istore_n 2, 1) := by decide +kernel
theorem dX4_countKin_2 : decode cX4_countKin 2 = .ok (.iconst 0, 1) := by decide +kernel
theorem dX4_countKin_3 : decode cX4_countKin 3 = .ok (.istore_n 3, 1) := by decide +kernel
theorem dX4_countKin_4 : decode cX4_countKin 4 = .ok (.iload_n 3, 1) := by decide +kernel
theorem dX4_countKin_5 : decode cX4_countKin 5 = .ok (.aload_n 0, 1) := by decide +kernel
theorem dX4_countKin_6 : decode cX4_countKin 6 = .ok (.getfield 9, 3) := by decide +kernel
theorem dX4_countKin_9 : decode cX4_countKin 9 = .ok (.if_icmp .ge 27, 3) := by decide +kernel
theorem dX4_countKin_12 : decode cX4_countKin 12 = .ok (.aload_n 0, 1) := by decide +kernel
theorem dX4_countKin_13 : decode cX4_countKin 13 = .ok (.getfield 50, 3) := by decide +kernel
theorem dX4_countKin_16 : decode cX4_countKin 16 = .ok (.iload_n 3, 1) := by decide +kernel
theorem dX4_countKin_17 : decode cX4_countKin 17 = .ok (.iaload, 1) := by decide +kernel
theorem dX4_countKin_18 : decode cX4_countKin 18 = .ok (.aload_n 0, 1) := by decide +kernel
theorem dX4_countKin_19 : decode cX4_countKin 19 = .ok (.getfield 50, 3) := by decide +kernel
theorem dX4_countKin_22 : decode cX4_countKin 22 = .ok (.iload_n 1, 1) := by decide +kernel
theorem dX4_countKin_23 : decode cX4_countKin 23 = .ok (.iaload, 1) := by decide +kernel
theorem dX4_countKin_24 : decode cX4_countKin 24 = .ok (.if_icmp .ne 6, 3) := by decide +kernel
theorem dX4_countKin_27 : decode cX4_countKin 27 = .ok (.iinc 2 1, 3) := by decide +kernel
theorem dX4_countKin_30 : decode cX4_countKin 30 = .ok (.iinc 3 1, 3) := by decide +kernel
theorem dX4_countKin_33 : decode cX4_countKin 33 = .ok (.goto (-29), 3) := by decide +kernel
theorem dX4_countKin_36 : decode cX4_countKin 36 = .ok (.iload_n 2, 1) := by decide +kernel
theorem dX4_countKin_37 : decode cX4_countKin 37 = .ok (.ireturn, 1) := by decide +kernel
theorem dX4_nextCentral_0 : decode cX4_nextCentral 0 = .ok (.iload_n 1, 1) := by decide +kernel
theorem dX4_nextCentral_1 : decode cX4_nextCentral 1 = .ok (.istore 4, 2) := by decide +kernel
theorem dX4_nextCentral_3 : decode cX4_nextCentral 3 = .ok (.iload 4, 2) := by decide +kernel
theorem dX4_nextCentral_5 : decode cX4_nextCentral 5 = .ok (.aload_n 0, 1) := by decide +kernel
theorem dX4_nextCentral_6 : decode cX4_nextCentral 6 = .ok (.getfield 9, 3) := by decide +kernel
theorem dX4_nextCentral_9 : decode cX4_nextCentral 9 = .ok (.if_icmp .ge 78, 3) := by decide +kernel
theorem dX4_nextCentral_12 : decode cX4_nextCentral 12 = .ok (.iconst 1, 1) := by decide +kernel
theorem dX4_nextCentral_13 : decode cX4_nextCentral 13 = .ok (.istore 5, 2) := by decide +kernel
theorem dX4_nextCentral_15 : decode cX4_nextCentral 15 = .ok (.iconst 0, 1) := by decide +kernel
theorem dX4_nextCentral_16 : decode cX4_nextCentral 16 = .ok (.istore 6, 2) := by decide +kernel
theorem dX4_nextCentral_18 : decode cX4_nextCentral 18 = .ok (.iload 6, 2) := by decide +kernel
theorem dX4_nextCentral_20 : decode cX4_nextCentral 20 = .ok (.aload_n 2, 1) := by decide +kernel
theorem dX4_nextCentral_21 : decode cX4_nextCentral 21 = .ok (.arraylength, 1) := by decide +kernel
theorem dX4_nextCentral_22 : decode cX4_nextCentral 22 = .ok (.if_icmp .ge 51, 3) := by decide +kernel
theorem dX4_nextCentral_25 : decode cX4_nextCentral 25 = .ok (.iload 5, 2) := by decide +kernel
theorem dX4_nextCentral_27 : decode cX4_nextCentral 27 = .ok (.ifCond .eq 46, 3) := by decide +kernel
theorem dX4_nextCentral_30 : decode cX4_nextCentral 30 = .ok (.iload_n 3, 1) := by decide +kernel
theorem dX4_nextCentral_31 : decode cX4_nextCentral 31 = .ok (.iload 6, 2) := by decide +kernel
theorem dX4_nextCentral_33 : decode cX4_nextCentral 33 = .ok (.ishr, 1) := by decide +kernel
theorem dX4_nextCentral_34 : decode cX4_nextCentral 34 = .ok (.iconst 1, 1) := by decide +kernel
theorem dX4_nextCentral_35 : decode cX4_nextCentral 35 = .ok (.iand, 1) := by decide +kernel
theorem dX4_nextCentral_36 : decode cX4_nextCentral 36 = .ok (.ifCond .eq 24, 3) := by decide +kernel
theorem dX4_nextCentral_39 : decode cX4_nextCentral 39 = .ok (.aload_n 0, 1) := by decide +kernel
theorem dX4_nextCentral_40 : decode cX4_nextCentral 40 = .ok (.getfield 53, 3) := by decide +kernel
theorem dX4_nextCentral_43 : decode cX4_nextCentral 43 = .ok (.iload 4, 2) := by decide +kernel
theorem dX4_nextCentral_45 : decode cX4_nextCentral 45 = .ok (.laload, 1) := by decide +kernel
theorem dX4_nextCentral_46 : decode cX4_nextCentral 46 = .ok (.aload_n 2, 1) := by decide +kernel
theorem dX4_nextCentral_47 : decode cX4_nextCentral 47 = .ok (.iload 6, 2) := by decide +kernel
theorem dX4_nextCentral_49 : decode cX4_nextCentral 49 = .ok (.laload, 1) := by decide +kernel
theorem dX4_nextCentral_50 : decode cX4_nextCentral 50 = .ok (.aload_n 0, 1) := by decide +kernel
theorem dX4_nextCentral_51 : decode cX4_nextCentral 51 = .ok (.getfield 21, 3) := by decide +kernel
theorem dX4_nextCentral_54 : decode cX4_nextCentral 54 = .ok (.invokestatic 128, 3) := by decide +kernel
theorem dX4_nextCentral_57 : decode cX4_nextCentral 57 = .ok (.ifCond .eq 7, 3) := by decide +kernel
theorem dX4_nextCentral_60 : decode cX4_nextCentral 60 = .ok (.iconst 1, 1) := by decide +kernel
theorem dX4_nextCentral_61 : decode cX4_nextCentral 61 = .ok (.goto 4, 3) := by decide +kernel
theorem dX4_nextCentral_64 : decode cX4_nextCentral 64 = .ok (.iconst 0, 1) := by decide +kernel
theorem dX4_nextCentral_65 : decode cX4_nextCentral 65 = .ok (.istore 5, 2) := by decide +kernel
theorem dX4_nextCentral_67 : decode cX4_nextCentral 67 = .ok (.iinc 6 1, 3) := by decide +kernel
theorem dX4_nextCentral_70 : decode cX4_nextCentral 70 = .ok (.goto (-52), 3) := by decide +kernel
theorem dX4_nextCentral_73 : decode cX4_nextCentral 73 = .ok (.iload 5, 2) := by decide +kernel
theorem dX4_nextCentral_75 : decode cX4_nextCentral 75 = .ok (.ifCond .eq 6, 3) := by decide +kernel
theorem dX4_nextCentral_78 : decode cX4_nextCentral 78 = .ok (.iload 4, 2) := by decide +kernel
theorem dX4_nextCentral_80 : decode cX4_nextCentral 80 = .ok (.ireturn, 1) := by decide +kernel
theorem dX4_nextCentral_81 : decode cX4_nextCentral 81 = .ok (.iinc 4 1, 3) := by decide +kernel
theorem dX4_nextCentral_84 : decode cX4_nextCentral 84 = .ok (.goto (-81), 3) := by decide +kernel
theorem dX4_nextCentral_87 : decode cX4_nextCentral 87 = .ok (.iconst (-1), 1) := by decide +kernel
theorem dX4_nextCentral_88 : decode cX4_nextCentral 88 = .ok (.ireturn, 1) := by decide +kernel
theorem dX4_takesInto_0 : decode cX4_takesInto 0 = .ok (.iconst 0, 1) := by decide +kernel
theorem dX4_takesInto_1 : decode cX4_takesInto 1 = .ok (.istore 5, 2) := by decide +kernel
theorem dX4_takesInto_3 : decode cX4_takesInto 3 = .ok (.iload 5, 2) := by decide +kernel
theorem dX4_takesInto_5 : decode cX4_takesInto 5 = .ok (.aload_n 0, 1) := by decide +kernel
theorem dX4_takesInto_6 : decode cX4_takesInto 6 = .ok (.getfield 21, 3) := by decide +kernel
theorem dX4_takesInto_9 : decode cX4_takesInto 9 = .ok (.if_icmp .ge 34, 3) := by decide +kernel
theorem dX4_takesInto_12 : decode cX4_takesInto 12 = .ok (.iload_n 3, 1) := by decide +kernel
theorem dX4_takesInto_13 : decode cX4_takesInto 13 = .ok (.iload 5, 2) := by decide +kernel
theorem dX4_takesInto_15 : decode cX4_takesInto 15 = .ok (.ishr, 1) := by decide +kernel
theorem dX4_takesInto_16 : decode cX4_takesInto 16 = .ok (.iconst 1, 1) := by decide +kernel
theorem dX4_takesInto_17 : decode cX4_takesInto 17 = .ok (.iand, 1) := by decide +kernel
theorem dX4_takesInto_18 : decode cX4_takesInto 18 = .ok (.ifCond .eq 19, 3) := by decide +kernel
theorem dX4_takesInto_21 : decode cX4_takesInto 21 = .ok (.iload 4, 2) := by decide +kernel
theorem dX4_takesInto_23 : decode cX4_takesInto 23 = .ok (.lload_n 1, 1) := by decide +kernel
theorem dX4_takesInto_24 : decode cX4_takesInto 24 = .ok (.iload 5, 2) := by decide +kernel
theorem dX4_takesInto_26 : decode cX4_takesInto 26 = .ok (.invokestatic 96, 3) := by decide +kernel
theorem dX4_takesInto_29 : decode cX4_takesInto 29 = .ok (.ishr, 1) := by decide +kernel
theorem dX4_takesInto_30 : decode cX4_takesInto 30 = .ok (.iconst 1, 1) := by decide +kernel
theorem dX4_takesInto_31 : decode cX4_takesInto 31 = .ok (.iand, 1) := by decide +kernel
theorem dX4_takesInto_32 : decode cX4_takesInto 32 = .ok (.ifCond .ne 5, 3) := by decide +kernel
theorem dX4_takesInto_35 : decode cX4_takesInto 35 = .ok (.iconst 0, 1) := by decide +kernel
theorem dX4_takesInto_36 : decode cX4_takesInto 36 = .ok (.ireturn, 1) := by decide +kernel
theorem dX4_takesInto_37 : decode cX4_takesInto 37 = .ok (.iinc 5 1, 3) := by decide +kernel
theorem dX4_takesInto_40 : decode cX4_takesInto 40 = .ok (.goto (-37), 3) := by decide +kernel
theorem dX4_takesInto_43 : decode cX4_takesInto 43 = .ok (.iconst 1, 1) := by decide +kernel
theorem dX4_takesInto_44 : decode cX4_takesInto 44 = .ok (.ireturn, 1) := by decide +kernel
theorem dX4_countKeeping_0 : decode cX4_countKeeping 0 = .ok (.iconst 0, 1) := by decide +kernel
theorem dX4_countKeeping_1 : decode cX4_countKeeping 1 = .ok (.istore_n 2, 1) := by decide +kernel
theorem dX4_countKeeping_2 : decode cX4_countKeeping 2 = .ok (.iconst 0, 1) := by decide +kernel
theorem dX4_countKeeping_3 : decode cX4_countKeeping 3 = .ok (.istore_n 3, 1) := by decide +kernel
theorem dX4_countKeeping_4 : decode cX4_countKeeping 4 = .ok (.iload_n 3, 1) := by decide +kernel
theorem dX4_countKeeping_5 : decode cX4_countKeeping 5 = .ok (.aload_n 0, 1) := by decide +kernel
theorem dX4_countKeeping_6 : decode cX4_countKeeping 6 = .ok (.getfield 9, 3) := by decide +kernel
theorem dX4_countKeeping_9 : decode cX4_countKeeping 9 = .ok (.if_icmp .ge 27, 3) := by decide +kernel
theorem dX4_countKeeping_12 : decode cX4_countKeeping 12 = .ok (.aload_n 0, 1) := by decide +kernel
theorem dX4_countKeeping_13 : decode cX4_countKeeping 13 = .ok (.aload_n 0, 1) := by decide +kernel
theorem dX4_countKeeping_14 : decode cX4_countKeeping 14 = .ok (.getfield 53, 3) := by decide +kernel
theorem dX4_countKeeping_17 : decode cX4_countKeeping 17 = .ok (.iload_n 3, 1) := by decide +kernel
theorem dX4_countKeeping_18 : decode cX4_countKeeping 18 = .ok (.laload, 1) := by decide +kernel
theorem dX4_countKeeping_19 : decode cX4_countKeeping 19 = .ok (.iload_n 1, 1) := by decide +kernel
theorem dX4_countKeeping_20 : decode cX4_countKeeping 20 = .ok (.iload_n 1, 1) := by decide +kernel
theorem dX4_countKeeping_21 : decode cX4_countKeeping 21 = .ok (.invokevirtual 132, 3) := by decide +kernel
theorem dX4_countKeeping_24 : decode cX4_countKeeping 24 = .ok (.ifCond .eq 6, 3) := by decide +kernel
theorem dX4_countKeeping_27 : decode cX4_countKeeping 27 = .ok (.iinc 2 1, 3) := by decide +kernel
theorem dX4_countKeeping_30 : decode cX4_countKeeping 30 = .ok (.iinc 3 1, 3) := by decide +kernel
theorem dX4_countKeeping_33 : decode cX4_countKeeping 33 = .ok (.goto (-29), 3) := by decide +kernel
theorem dX4_countKeeping_36 : decode cX4_countKeeping 36 = .ok (.iload_n 2, 1) := by decide +kernel
theorem dX4_countKeeping_37 : decode cX4_countKeeping 37 = .ok (.ireturn, 1) := by decide +kernel
theorem dX4_firstBringing_0 : decode cX4_firstBringing 0 = .ok (.iload_n 1, 1) := by decide +kernel
theorem dX4_firstBringing_1 : decode cX4_firstBringing 1 = .ok (.invokestatic 83, 3) := by decide +kernel
theorem dX4_firstBringing_4 : decode cX4_firstBringing 4 = .ok (.iload_n 2, 1) := by decide +kernel
theorem dX4_firstBringing_5 : decode cX4_firstBringing 5 = .ok (.invokestatic 83, 3) := by decide +kernel
theorem dX4_firstBringing_8 : decode cX4_firstBringing 8 = .ok (.if_icmp .eq 5, 3) := by decide +kernel
theorem dX4_firstBringing_11 : decode cX4_firstBringing 11 = .ok (.iconst (-1), 1) := by decide +kernel
theorem dX4_firstBringing_12 : decode cX4_firstBringing 12 = .ok (.ireturn, 1) := by decide +kernel
theorem dX4_firstBringing_13 : decode cX4_firstBringing 13 = .ok (.iconst 0, 1) := by decide +kernel
theorem dX4_firstBringing_14 : decode cX4_firstBringing 14 = .ok (.istore_n 3, 1) := by decide +kernel
theorem dX4_firstBringing_15 : decode cX4_firstBringing 15 = .ok (.iload_n 3, 1) := by decide +kernel
theorem dX4_firstBringing_16 : decode cX4_firstBringing 16 = .ok (.aload_n 0, 1) := by decide +kernel
theorem dX4_firstBringing_17 : decode cX4_firstBringing 17 = .ok (.getfield 9, 3) := by decide +kernel
theorem dX4_firstBringing_20 : decode cX4_firstBringing 20 = .ok (.if_icmp .ge 26, 3) := by decide +kernel
theorem dX4_firstBringing_23 : decode cX4_firstBringing 23 = .ok (.aload_n 0, 1) := by decide +kernel
theorem dX4_firstBringing_24 : decode cX4_firstBringing 24 = .ok (.aload_n 0, 1) := by decide +kernel
theorem dX4_firstBringing_25 : decode cX4_firstBringing 25 = .ok (.getfield 53, 3) := by decide +kernel
theorem dX4_firstBringing_28 : decode cX4_firstBringing 28 = .ok (.iload_n 3, 1) := by decide +kernel
theorem dX4_firstBringing_29 : decode cX4_firstBringing 29 = .ok (.laload, 1) := by decide +kernel
theorem dX4_firstBringing_30 : decode cX4_firstBringing 30 = .ok (.iload_n 1, 1) := by decide +kernel
theorem dX4_firstBringing_31 : decode cX4_firstBringing 31 = .ok (.iload_n 2, 1) := by decide +kernel
theorem dX4_firstBringing_32 : decode cX4_firstBringing 32 = .ok (.invokevirtual 132, 3) := by decide +kernel
theorem dX4_firstBringing_35 : decode cX4_firstBringing 35 = .ok (.ifCond .eq 5, 3) := by decide +kernel
theorem dX4_firstBringing_38 : decode cX4_firstBringing 38 = .ok (.iload_n 3, 1) := by decide +kernel
theorem dX4_firstBringing_39 : decode cX4_firstBringing 39 = .ok (.ireturn, 1) := by decide +kernel
theorem dX4_firstBringing_40 : decode cX4_firstBringing 40 = .ok (.iinc 3 1, 3) := by decide +kernel
theorem dX4_firstBringing_43 : decode cX4_firstBringing 43 = .ok (.goto (-28), 3) := by decide +kernel
theorem dX4_firstBringing_46 : decode cX4_firstBringing 46 = .ok (.iconst (-1), 1) := by decide +kernel
theorem dX4_firstBringing_47 : decode cX4_firstBringing 47 = .ok (.ireturn, 1) := by decide +kernel
theorem dX4_firstRoot_0 : decode cX4_firstRoot 0 = .ok (.iconst 0, 1) := by decide +kernel
theorem dX4_firstRoot_1 : decode cX4_firstRoot 1 = .ok (.istore 4, 2) := by decide +kernel
theorem dX4_firstRoot_3 : decode cX4_firstRoot 3 = .ok (.iload 4, 2) := by decide +kernel
theorem dX4_firstRoot_5 : decode cX4_firstRoot 5 = .ok (.aload_n 0, 1) := by decide +kernel
theorem dX4_firstRoot_6 : decode cX4_firstRoot 6 = .ok (.getfield 9, 3) := by decide +kernel
theorem dX4_firstRoot_9 : decode cX4_firstRoot 9 = .ok (.if_icmp .ge 72, 3) := by decide +kernel
theorem dX4_firstRoot_12 : decode cX4_firstRoot 12 = .ok (.iconst 1, 1) := by decide +kernel
theorem dX4_firstRoot_13 : decode cX4_firstRoot 13 = .ok (.istore 5, 2) := by decide +kernel
theorem dX4_firstRoot_15 : decode cX4_firstRoot 15 = .ok (.iconst 0, 1) := by decide +kernel
theorem dX4_firstRoot_16 : decode cX4_firstRoot 16 = .ok (.istore 6, 2) := by decide +kernel
theorem dX4_firstRoot_18 : decode cX4_firstRoot 18 = .ok (.iload 6, 2) := by decide +kernel
theorem dX4_firstRoot_20 : decode cX4_firstRoot 20 = .ok (.aload_n 0, 1) := by decide +kernel
theorem dX4_firstRoot_21 : decode cX4_firstRoot 21 = .ok (.getfield 21, 3) := by decide +kernel
theorem dX4_firstRoot_24 : decode cX4_firstRoot 24 = .ok (.if_icmp .ge 43, 3) := by decide +kernel
theorem dX4_firstRoot_27 : decode cX4_firstRoot 27 = .ok (.iload 5, 2) := by decide +kernel
theorem dX4_firstRoot_29 : decode cX4_firstRoot 29 = .ok (.ifCond .eq 38, 3) := by decide +kernel
theorem dX4_firstRoot_32 : decode cX4_firstRoot 32 = .ok (.aload_n 0, 1) := by decide +kernel
theorem dX4_firstRoot_33 : decode cX4_firstRoot 33 = .ok (.getfield 53, 3) := by decide +kernel
theorem dX4_firstRoot_36 : decode cX4_firstRoot 36 = .ok (.iload 4, 2) := by decide +kernel
theorem dX4_firstRoot_38 : decode cX4_firstRoot 38 = .ok (.laload, 1) := by decide +kernel
theorem dX4_firstRoot_39 : decode cX4_firstRoot 39 = .ok (.iload 6, 2) := by decide +kernel
theorem dX4_firstRoot_41 : decode cX4_firstRoot 41 = .ok (.iload_n 3, 1) := by decide +kernel
theorem dX4_firstRoot_42 : decode cX4_firstRoot 42 = .ok (.invokestatic 136, 3) := by decide +kernel
theorem dX4_firstRoot_45 : decode cX4_firstRoot 45 = .ok (.lload_n 1, 1) := by decide +kernel
theorem dX4_firstRoot_46 : decode cX4_firstRoot 46 = .ok (.iload 6, 2) := by decide +kernel
theorem dX4_firstRoot_48 : decode cX4_firstRoot 48 = .ok (.invokestatic 96, 3) := by decide +kernel
theorem dX4_firstRoot_51 : decode cX4_firstRoot 51 = .ok (.if_icmp .ne 7, 3) := by decide +kernel
theorem dX4_firstRoot_54 : decode cX4_firstRoot 54 = .ok (.iconst 1, 1) := by decide +kernel
theorem dX4_firstRoot_55 : decode cX4_firstRoot 55 = .ok (.goto 4, 3) := by decide +kernel
theorem dX4_firstRoot_58 : decode cX4_firstRoot 58 = .ok (.iconst 0, 1) := by decide +kernel
theorem dX4_firstRoot_59 : decode cX4_firstRoot 59 = .ok (.istore 5, 2) := by decide +kernel
theorem dX4_firstRoot_61 : decode cX4_firstRoot 61 = .ok (.iinc 6 1, 3) := by decide +kernel
theorem dX4_firstRoot_64 : decode cX4_firstRoot 64 = .ok (.goto (-46), 3) := by decide +kernel
theorem dX4_firstRoot_67 : decode cX4_firstRoot 67 = .ok (.iload 5, 2) := by decide +kernel
theorem dX4_firstRoot_69 : decode cX4_firstRoot 69 = .ok (.ifCond .eq 6, 3) := by decide +kernel
theorem dX4_firstRoot_72 : decode cX4_firstRoot 72 = .ok (.iload 4, 2) := by decide +kernel
theorem dX4_firstRoot_74 : decode cX4_firstRoot 74 = .ok (.ireturn, 1) := by decide +kernel
theorem dX4_firstRoot_75 : decode cX4_firstRoot 75 = .ok (.iinc 4 1, 3) := by decide +kernel
theorem dX4_firstRoot_78 : decode cX4_firstRoot 78 = .ok (.goto (-75), 3) := by decide +kernel
theorem dX4_firstRoot_81 : decode cX4_firstRoot 81 = .ok (.iconst (-1), 1) := by decide +kernel
theorem dX4_firstRoot_82 : decode cX4_firstRoot 82 = .ok (.ireturn, 1) := by decide +kernel
theorem dX4_shapeAll_0 : decode cX4_shapeAll 0 = .ok (.aload_n 0, 1) := by decide +kernel
theorem dX4_shapeAll_1 : decode cX4_shapeAll 1 = .ok (.getfield 34, 3) := by decide +kernel
theorem dX4_shapeAll_4 : decode cX4_shapeAll 4 = .ok (.ifCond .eq 4, 3) := by decide +kernel
theorem dX4_shapeAll_7 : decode cX4_shapeAll 7 = .ok (.return_, 1) := by decide +kernel
theorem dX4_shapeAll_8 : decode cX4_shapeAll 8 = .ok (.iconst 0, 1) := by decide +kernel
theorem dX4_shapeAll_9 : decode cX4_shapeAll 9 = .ok (.istore_n 1, 1) := by decide +kernel
theorem dX4_shapeAll_10 : decode cX4_shapeAll 10 = .ok (.iload_n 1, 1) := by decide +kernel
theorem dX4_shapeAll_11 : decode cX4_shapeAll 11 = .ok (.aload_n 0, 1) := by decide +kernel
theorem dX4_shapeAll_12 : decode cX4_shapeAll 12 = .ok (.getfield 9, 3) := by decide +kernel
theorem dX4_shapeAll_15 : decode cX4_shapeAll 15 = .ok (.if_icmp .ge 28, 3) := by decide +kernel
theorem dX4_shapeAll_18 : decode cX4_shapeAll 18 = .ok (.aload_n 0, 1) := by decide +kernel
theorem dX4_shapeAll_19 : decode cX4_shapeAll 19 = .ok (.getfield 57, 3) := by decide +kernel
theorem dX4_shapeAll_22 : decode cX4_shapeAll 22 = .ok (.iload_n 1, 1) := by decide +kernel
theorem dX4_shapeAll_23 : decode cX4_shapeAll 23 = .ok (.aload_n 0, 1) := by decide +kernel
theorem dX4_shapeAll_24 : decode cX4_shapeAll 24 = .ok (.getfield 53, 3) := by decide +kernel
theorem dX4_shapeAll_27 : decode cX4_shapeAll 27 = .ok (.iload_n 1, 1) := by decide +kernel
theorem dX4_shapeAll_28 : decode cX4_shapeAll 28 = .ok (.laload, 1) := by decide +kernel
theorem dX4_shapeAll_29 : decode cX4_shapeAll 29 = .ok (.aload_n 0, 1) := by decide +kernel
theorem dX4_shapeAll_30 : decode cX4_shapeAll 30 = .ok (.getfield 21, 3) := by decide +kernel
theorem dX4_shapeAll_33 : decode cX4_shapeAll 33 = .ok (.invokestatic 140, 3) := by decide +kernel
theorem dX4_shapeAll_36 : decode cX4_shapeAll 36 = .ok (.lastore, 1) := by decide +kernel
theorem dX4_shapeAll_37 : decode cX4_shapeAll 37 = .ok (.iinc 1 1, 3) := by decide +kernel
theorem dX4_shapeAll_40 : decode cX4_shapeAll 40 = .ok (.goto (-30), 3) := by decide +kernel
theorem dX4_shapeAll_43 : decode cX4_shapeAll 43 = .ok (.aload_n 0, 1) := by decide +kernel
theorem dX4_shapeAll_44 : decode cX4_shapeAll 44 = .ok (.iconst 1, 1) := by decide +kernel
theorem dX4_shapeAll_45 : decode cX4_shapeAll 45 = .ok (.putfield 34, 3) := by decide +kernel
theorem dX4_shapeAll_48 : decode cX4_shapeAll 48 = .ok (.return_, 1) := by decide +kernel
theorem dX4_countStaying_0 : decode cX4_countStaying 0 = .ok (.iconst 0, 1) := by decide +kernel
theorem dX4_countStaying_1 : decode cX4_countStaying 1 = .ok (.istore_n 2, 1) := by decide +kernel
theorem dX4_countStaying_2 : decode cX4_countStaying 2 = .ok (.iconst 0, 1) := by decide +kernel
theorem dX4_countStaying_3 : decode cX4_countStaying 3 = .ok (.istore_n 3, 1) := by decide +kernel
theorem dX4_countStaying_4 : decode cX4_countStaying 4 = .ok (.iload_n 3, 1) := by decide +kernel
theorem dX4_countStaying_5 : decode cX4_countStaying 5 = .ok (.aload_n 0, 1) := by decide +kernel
theorem dX4_countStaying_6 : decode cX4_countStaying 6 = .ok (.getfield 9, 3) := by decide +kernel
theorem dX4_countStaying_9 : decode cX4_countStaying 9 = .ok (.if_icmp .ge 25, 3) := by decide +kernel
theorem dX4_countStaying_12 : decode cX4_countStaying 12 = .ok (.aload_n 0, 1) := by decide +kernel
theorem dX4_countStaying_13 : decode cX4_countStaying 13 = .ok (.getfield 57, 3) := by decide +kernel
theorem dX4_countStaying_16 : decode cX4_countStaying 16 = .ok (.iload_n 3, 1) := by decide +kernel
theorem dX4_countStaying_17 : decode cX4_countStaying 17 = .ok (.laload, 1) := by decide +kernel
theorem dX4_countStaying_18 : decode cX4_countStaying 18 = .ok (.invokestatic 143, 3) := by decide +kernel
theorem dX4_countStaying_21 : decode cX4_countStaying 21 = .ok (.iload_n 1, 1) := by decide +kernel
theorem dX4_countStaying_22 : decode cX4_countStaying 22 = .ok (.if_icmp .ne 6, 3) := by decide +kernel
theorem dX4_countStaying_25 : decode cX4_countStaying 25 = .ok (.iinc 2 1, 3) := by decide +kernel
theorem dX4_countStaying_28 : decode cX4_countStaying 28 = .ok (.iinc 3 1, 3) := by decide +kernel
theorem dX4_countStaying_31 : decode cX4_countStaying 31 = .ok (.goto (-27), 3) := by decide +kernel
theorem dX4_countStaying_34 : decode cX4_countStaying 34 = .ok (.iload_n 2, 1) := by decide +kernel
theorem dX4_countStaying_35 : decode cX4_countStaying 35 = .ok (.ireturn, 1) := by decide +kernel
theorem dX4_countShaped_0 : decode cX4_countShaped 0 = .ok (.iconst 0, 1) := by decide +kernel
theorem dX4_countShaped_1 : decode cX4_countShaped 1 = .ok (.istore_n 3, 1) := by decide +kernel
theorem dX4_countShaped_2 : decode cX4_countShaped 2 = .ok (.iconst 0, 1) := by decide +kernel
theorem dX4_countShaped_3 : decode cX4_countShaped 3 = .ok (.istore 4, 2) := by decide +kernel
theorem dX4_countShaped_5 : decode cX4_countShaped 5 = .ok (.iload 4, 2) := by decide +kernel
theorem dX4_countShaped_7 : decode cX4_countShaped 7 = .ok (.aload_n 0, 1) := by decide +kernel
theorem dX4_countShaped_8 : decode cX4_countShaped 8 = .ok (.getfield 9, 3) := by decide +kernel
theorem dX4_countShaped_11 : decode cX4_countShaped 11 = .ok (.if_icmp .ge 24, 3) := by decide +kernel
theorem dX4_countShaped_14 : decode cX4_countShaped 14 = .ok (.aload_n 0, 1) := by decide +kernel
theorem dX4_countShaped_15 : decode cX4_countShaped 15 = .ok (.getfield 57, 3) := by decide +kernel
theorem dX4_countShaped_18 : decode cX4_countShaped 18 = .ok (.iload 4, 2) := by decide +kernel
theorem dX4_countShaped_20 : decode cX4_countShaped 20 = .ok (.laload, 1) := by decide +kernel
theorem dX4_countShaped_21 : decode cX4_countShaped 21 = .ok (.lload_n 1, 1) := by decide +kernel
theorem dX4_countShaped_22 : decode cX4_countShaped 22 = .ok (.lcmp, 1) := by decide +kernel
theorem dX4_countShaped_23 : decode cX4_countShaped 23 = .ok (.ifCond .ne 6, 3) := by decide +kernel
theorem dX4_countShaped_26 : decode cX4_countShaped 26 = .ok (.iinc 3 1, 3) := by decide +kernel
theorem dX4_countShaped_29 : decode cX4_countShaped 29 = .ok (.iinc 4 1, 3) := by decide +kernel
theorem dX4_countShaped_32 : decode cX4_countShaped 32 = .ok (.goto (-27), 3) := by decide +kernel
theorem dX4_countShaped_35 : decode cX4_countShaped 35 = .ok (.iload_n 3, 1) := by decide +kernel
theorem dX4_countShaped_36 : decode cX4_countShaped 36 = .ok (.ireturn, 1) := by decide +kernel
theorem dX4_countPeriod_0 : decode cX4_countPeriod 0 = .ok (.iconst 0, 1) := by decide +kernel
theorem dX4_countPeriod_1 : decode cX4_countPeriod 1 = .ok (.istore_n 2, 1) := by decide +kernel
theorem dX4_countPeriod_2 : decode cX4_countPeriod 2 = .ok (.iconst 0, 1) := by decide +kernel
theorem dX4_countPeriod_3 : decode cX4_countPeriod 3 = .ok (.istore_n 3, 1) := by decide +kernel
theorem dX4_countPeriod_4 : decode cX4_countPeriod 4 = .ok (.iload_n 3, 1) := by decide +kernel
theorem dX4_countPeriod_5 : decode cX4_countPeriod 5 = .ok (.aload_n 0, 1) := by decide +kernel
theorem dX4_countPeriod_6 : decode cX4_countPeriod 6 = .ok (.getfield 9, 3) := by decide +kernel
theorem dX4_countPeriod_9 : decode cX4_countPeriod 9 = .ok (.if_icmp .ge 25, 3) := by decide +kernel
theorem dX4_countPeriod_12 : decode cX4_countPeriod 12 = .ok (.aload_n 0, 1) := by decide +kernel
theorem dX4_countPeriod_13 : decode cX4_countPeriod 13 = .ok (.getfield 57, 3) := by decide +kernel
theorem dX4_countPeriod_16 : decode cX4_countPeriod 16 = .ok (.iload_n 3, 1) := by decide +kernel
theorem dX4_countPeriod_17 : decode cX4_countPeriod 17 = .ok (.laload, 1) := by decide +kernel
theorem dX4_countPeriod_18 : decode cX4_countPeriod 18 = .ok (.invokestatic 146, 3) := by decide +kernel
theorem dX4_countPeriod_21 : decode cX4_countPeriod 21 = .ok (.iload_n 1, 1) := by decide +kernel
theorem dX4_countPeriod_22 : decode cX4_countPeriod 22 = .ok (.if_icmp .ne 6, 3) := by decide +kernel
theorem dX4_countPeriod_25 : decode cX4_countPeriod 25 = .ok (.iinc 2 1, 3) := by decide +kernel
theorem dX4_countPeriod_28 : decode cX4_countPeriod 28 = .ok (.iinc 3 1, 3) := by decide +kernel
theorem dX4_countPeriod_31 : decode cX4_countPeriod 31 = .ok (.goto (-27), 3) := by decide +kernel
theorem dX4_countPeriod_34 : decode cX4_countPeriod 34 = .ok (.iload_n 2, 1) := by decide +kernel
theorem dX4_countPeriod_35 : decode cX4_countPeriod 35 = .ok (.ireturn, 1) := by decide +kernel
theorem dX4_fewestMoved_0 : decode cX4_fewestMoved 0 = .ok (.iconst 0, 1) := by decide +kernel
theorem dX4_fewestMoved_1 : decode cX4_fewestMoved 1 = .ok (.istore_n 1, 1) := by decide +kernel
theorem dX4_fewestMoved_2 : decode cX4_fewestMoved 2 = .ok (.iconst 0, 1) := by decide +kernel
theorem dX4_fewestMoved_3 : decode cX4_fewestMoved 3 = .ok (.istore_n 2, 1) := by decide +kernel
theorem dX4_fewestMoved_4 : decode cX4_fewestMoved 4 = .ok (.iload_n 2, 1) := by decide +kernel
theorem dX4_fewestMoved_5 : decode cX4_fewestMoved 5 = .ok (.aload_n 0, 1) := by decide +kernel
theorem dX4_fewestMoved_6 : decode cX4_fewestMoved 6 = .ok (.getfield 9, 3) := by decide +kernel
theorem dX4_fewestMoved_9 : decode cX4_fewestMoved 9 = .ok (.if_icmp .ge 39, 3) := by decide +kernel
theorem dX4_fewestMoved_12 : decode cX4_fewestMoved 12 = .ok (.aload_n 0, 1) := by decide +kernel
theorem dX4_fewestMoved_13 : decode cX4_fewestMoved 13 = .ok (.getfield 21, 3) := by decide +kernel
theorem dX4_fewestMoved_16 : decode cX4_fewestMoved 16 = .ok (.aload_n 0, 1) := by decide +kernel
theorem dX4_fewestMoved_17 : decode cX4_fewestMoved 17 = .ok (.getfield 57, 3) := by decide +kernel
theorem dX4_fewestMoved_20 : decode cX4_fewestMoved 20 = .ok (.iload_n 2, 1) := by decide +kernel
theorem dX4_fewestMoved_21 : decode cX4_fewestMoved 21 = .ok (.laload, 1) := by decide +kernel
theorem dX4_fewestMoved_22 : decode cX4_fewestMoved 22 = .ok (.invokestatic 143, 3) := by decide +kernel
theorem dX4_fewestMoved_25 : decode cX4_fewestMoved 25 = .ok (.isub, 1) := by decide +kernel
theorem dX4_fewestMoved_26 : decode cX4_fewestMoved 26 = .ok (.istore_n 3, 1) := by decide +kernel
theorem dX4_fewestMoved_27 : decode cX4_fewestMoved 27 = .ok (.iload_n 3, 1) := by decide +kernel
theorem dX4_fewestMoved_28 : decode cX4_fewestMoved 28 = .ok (.ifCond .le 14, 3) := by decide +kernel
theorem dX4_fewestMoved_31 : decode cX4_fewestMoved 31 = .ok (.iload_n 1, 1) := by decide +kernel
theorem dX4_fewestMoved_32 : decode cX4_fewestMoved 32 = .ok (.ifCond .eq 8, 3) := by decide +kernel
theorem dX4_fewestMoved_35 : decode cX4_fewestMoved 35 = .ok (.iload_n 3, 1) := by decide +kernel
theorem dX4_fewestMoved_36 : decode cX4_fewestMoved 36 = .ok (.iload_n 1, 1) := by decide +kernel
theorem dX4_fewestMoved_37 : decode cX4_fewestMoved 37 = .ok (.if_icmp .ge 5, 3) := by decide +kernel
theorem dX4_fewestMoved_40 : decode cX4_fewestMoved 40 = .ok (.iload_n 3, 1) := by decide +kernel
theorem dX4_fewestMoved_41 : decode cX4_fewestMoved 41 = .ok (.istore_n 1, 1) := by decide +kernel
theorem dX4_fewestMoved_42 : decode cX4_fewestMoved 42 = .ok (.iinc 2 1, 3) := by decide +kernel
theorem dX4_fewestMoved_45 : decode cX4_fewestMoved 45 = .ok (.goto (-41), 3) := by decide +kernel
theorem dX4_fewestMoved_48 : decode cX4_fewestMoved 48 = .ok (.iload_n 1, 1) := by decide +kernel
theorem dX4_fewestMoved_49 : decode cX4_fewestMoved 49 = .ok (.ireturn, 1) := by decide +kernel
theorem dX4_countColourings_0 : decode cX4_countColourings 0 = .ok (.lconst 0, 1) := by decide +kernel
theorem dX4_countColourings_1 : decode cX4_countColourings 1 = .ok (.lstore_n 2, 1) := by decide +kernel
theorem dX4_countColourings_2 : decode cX4_countColourings 2 = .ok (.iconst 0, 1) := by decide +kernel
theorem dX4_countColourings_3 : decode cX4_countColourings 3 = .ok (.istore 4, 2) := by decide +kernel
theorem dX4_countColourings_5 : decode cX4_countColourings 5 = .ok (.iload 4, 2) := by decide +kernel
theorem dX4_countColourings_7 : decode cX4_countColourings 7 = .ok (.aload_n 0, 1) := by decide +kernel
theorem dX4_countColourings_8 : decode cX4_countColourings 8 = .ok (.getfield 9, 3) := by decide +kernel
theorem dX4_countColourings_11 : decode cX4_countColourings 11 = .ok (.if_icmp .ge 52, 3) := by decide +kernel
theorem dX4_countColourings_14 : decode cX4_countColourings 14 = .ok (.lconst 1, 1) := by decide +kernel
theorem dX4_countColourings_15 : decode cX4_countColourings 15 = .ok (.lstore 5, 2) := by decide +kernel
theorem dX4_countColourings_17 : decode cX4_countColourings 17 = .ok (.aload_n 0, 1) := by decide +kernel
theorem dX4_countColourings_18 : decode cX4_countColourings 18 = .ok (.getfield 57, 3) := by decide +kernel
theorem dX4_countColourings_21 : decode cX4_countColourings 21 = .ok (.iload 4, 2) := by decide +kernel
theorem dX4_countColourings_23 : decode cX4_countColourings 23 = .ok (.laload, 1) := by decide +kernel
theorem dX4_countColourings_24 : decode cX4_countColourings 24 = .ok (.invokestatic 149, 3) := by decide +kernel
theorem dX4_countColourings_27 : decode cX4_countColourings 27 = .ok (.istore 7, 2) := by decide +kernel
theorem dX4_countColourings_29 : decode cX4_countColourings 29 = .ok (.iconst 0, 1) := by decide +kernel
theorem dX4_countColourings_30 : decode cX4_countColourings 30 = .ok (.istore 8, 2) := by decide +kernel
theorem dX4_countColourings_32 : decode cX4_countColourings 32 = .ok (.iload 8, 2) := by decide +kernel
theorem dX4_countColourings_34 : decode cX4_countColourings 34 = .ok (.iload 7, 2) := by decide +kernel
theorem dX4_countColourings_36 : decode cX4_countColourings 36 = .ok (.if_icmp .ge 16, 3) := by decide +kernel
theorem dX4_countColourings_39 : decode cX4_countColourings 39 = .ok (.lload 5, 2) := by decide +kernel
theorem dX4_countColourings_41 : decode cX4_countColourings 41 = .ok (.iload_n 1, 1) := by decide +kernel
theorem dX4_countColourings_42 : decode cX4_countColourings 42 = .ok (.i2l, 1) := by decide +kernel
theorem dX4_countColourings_43 : decode cX4_countColourings 43 = .ok (.lmul, 1) := by decide +kernel
theorem dX4_countColourings_44 : decode cX4_countColourings 44 = .ok (.lstore 5, 2) := by decide +kernel
theorem dX4_countColourings_46 : decode cX4_countColourings 46 = .ok (.iinc 8 1, 3) := by decide +kernel
theorem dX4_countColourings_49 : decode cX4_countColourings 49 = .ok (.goto (-17), 3) := by decide +kernel
theorem dX4_countColourings_52 : decode cX4_countColourings 52 = .ok (.lload_n 2, 1) := by decide +kernel
theorem dX4_countColourings_53 : decode cX4_countColourings 53 = .ok (.lload 5, 2) := by decide +kernel
theorem dX4_countColourings_55 : decode cX4_countColourings 55 = .ok (.ladd, 1) := by decide +kernel
theorem dX4_countColourings_56 : decode cX4_countColourings 56 = .ok (.lstore_n 2, 1) := by decide +kernel
theorem dX4_countColourings_57 : decode cX4_countColourings 57 = .ok (.iinc 4 1, 3) := by decide +kernel
theorem dX4_countColourings_60 : decode cX4_countColourings 60 = .ok (.goto (-55), 3) := by decide +kernel
theorem dX4_countColourings_63 : decode cX4_countColourings 63 = .ok (.aload_n 0, 1) := by decide +kernel
theorem dX4_countColourings_64 : decode cX4_countColourings 64 = .ok (.getfield 9, 3) := by decide +kernel
theorem dX4_countColourings_67 : decode cX4_countColourings 67 = .ok (.ifCond .le 13, 3) := by decide +kernel
theorem dX4_countColourings_70 : decode cX4_countColourings 70 = .ok (.lload_n 2, 1) := by decide +kernel
theorem dX4_countColourings_71 : decode cX4_countColourings 71 = .ok (.aload_n 0, 1) := by decide +kernel
theorem dX4_countColourings_72 : decode cX4_countColourings 72 = .ok (.getfield 9, 3) := by decide +kernel
theorem dX4_countColourings_75 : decode cX4_countColourings 75 = .ok (.i2l, 1) := by decide +kernel
theorem dX4_countColourings_76 : decode cX4_countColourings 76 = .ok (.ldiv, 1) := by decide +kernel
theorem dX4_countColourings_77 : decode cX4_countColourings 77 = .ok (.goto 4, 3) := by decide +kernel
theorem dX4_countColourings_80 : decode cX4_countColourings 80 = .ok (.lconst 0, 1) := by decide +kernel
theorem dX4_countColourings_81 : decode cX4_countColourings 81 = .ok (.lreturn, 1) := by decide +kernel
theorem dX5_init_0 : decode cX5_init 0 = .ok (.aload_n 0, 1) := by decide +kernel
theorem dX5_init_1 : decode cX5_init 1 = .ok (.invokespecial 3, 3) := by decide +kernel
theorem dX5_init_4 : decode cX5_init 4 = .ok (.aload_n 0, 1) := by decide +kernel
theorem dX5_init_5 : decode cX5_init 5 = .ok (.sipush 400, 3) := by decide +kernel
theorem dX5_init_8 : decode cX5_init 8 = .ok (.newarray .byte, 2) := by decide +kernel
theorem dX5_init_10 : decode cX5_init 10 = .ok (.putfield 11, 3) := by decide +kernel
theorem dX5_init_13 : decode cX5_init 13 = .ok (.aload_n 0, 1) := by decide +kernel
theorem dX5_init_14 : decode cX5_init 14 = .ok (.iconst 0, 1) := by decide +kernel
theorem dX5_init_15 : decode cX5_init 15 = .ok (.putfield 15, 3) := by decide +kernel
theorem dX5_init_18 : decode cX5_init 18 = .ok (.aload_n 0, 1) := by decide +kernel
theorem dX5_init_19 : decode cX5_init 19 = .ok (.iconst 0, 1) := by decide +kernel
theorem dX5_init_20 : decode cX5_init 20 = .ok (.putfield 19, 3) := by decide +kernel
theorem dX5_init_23 : decode cX5_init 23 = .ok (.aload_n 0, 1) := by decide +kernel
theorem dX5_init_24 : decode cX5_init 24 = .ok (.iconst 0, 1) := by decide +kernel
theorem dX5_init_25 : decode cX5_init 25 = .ok (.putfield 22, 3) := by decide +kernel
theorem dX5_init_28 : decode cX5_init 28 = .ok (.aload_n 0, 1) := by decide +kernel
theorem dX5_init_29 : decode cX5_init 29 = .ok (.iconst 0, 1) := by decide +kernel
theorem dX5_init_30 : decode cX5_init 30 = .ok (.putfield 25, 3) := by decide +kernel
theorem dX5_init_33 : decode cX5_init 33 = .ok (.aload_n 0, 1) := by decide +kernel
theorem dX5_init_34 : decode cX5_init 34 = .ok (.iconst 0, 1) := by decide +kernel
theorem dX5_init_35 : decode cX5_init 35 = .ok (.putfield 28, 3) := by decide +kernel
theorem dX5_init_38 : decode cX5_init 38 = .ok (.aload_n 0, 1) := by decide +kernel
theorem dX5_init_39 : decode cX5_init 39 = .ok (.iconst 0, 1) := by decide +kernel
theorem dX5_init_40 : decode cX5_init 40 = .ok (.putfield 31, 3) := by decide +kernel
theorem dX5_init_43 : decode cX5_init 43 = .ok (.aload_n 0, 1) := by decide +kernel
theorem dX5_init_44 : decode cX5_init 44 = .ok (.iconst 0, 1) := by decide +kernel
theorem dX5_init_45 : decode cX5_init 45 = .ok (.putfield 34, 3) := by decide +kernel
theorem dX5_init_48 : decode cX5_init 48 = .ok (.aload_n 0, 1) := by decide +kernel
theorem dX5_init_49 : decode cX5_init 49 = .ok (.iconst 0, 1) := by decide +kernel
theorem dX5_init_50 : decode cX5_init 50 = .ok (.putfield 37, 3) := by decide +kernel
theorem dX5_init_53 : decode cX5_init 53 = .ok (.aload_n 0, 1) := by decide +kernel
theorem dX5_init_54 : decode cX5_init 54 = .ok (.bipush 6, 2) := by decide +kernel
theorem dX5_init_56 : decode cX5_init 56 = .ok (.newarray .long, 2) := by decide +kernel
theorem dX5_init_58 : decode cX5_init 58 = .ok (.putfield 40, 3) := by decide +kernel
theorem dX5_init_61 : decode cX5_init 61 = .ok (.aload_n 0, 1) := by decide +kernel
theorem dX5_init_62 : decode cX5_init 62 = .ok (.bipush 6, 2) := by decide +kernel
theorem dX5_init_64 : decode cX5_init 64 = .ok (.newarray .int, 2) := by decide +kernel
theorem dX5_init_66 : decode cX5_init 66 = .ok (.putfield 44, 3) := by decide +kernel
theorem dX5_init_69 : decode cX5_init 69 = .ok (.aload_n 0, 1) := by decide +kernel
theorem dX5_init_70 : decode cX5_init 70 = .ok (.bipush 6, 2) := by decide +kernel
theorem dX5_init_72 : decode cX5_init 72 = .ok (.newarray .int, 2) := by decide +kernel
theorem dX5_init_74 : decode cX5_init 74 = .ok (.putfield 48, 3) := by decide +kernel
theorem dX5_init_77 : decode cX5_init 77 = .ok (.aload_n 0, 1) := by decide +kernel
theorem dX5_init_78 : decode cX5_init 78 = .ok (.lconst 0, 1) := by decide +kernel
theorem dX5_init_79 : decode cX5_init 79 = .ok (.putfield 51, 3) := by decide +kernel
theorem dX5_init_82 : decode cX5_init 82 = .ok (.aload_n 0, 1) := by decide +kernel
theorem dX5_init_83 : decode cX5_init 83 = .ok (.iconst 0, 1) := by decide +kernel
theorem dX5_init_84 : decode cX5_init 84 = .ok (.putfield 55, 3) := by decide +kernel
theorem dX5_init_87 : decode cX5_init 87 = .ok (.aload_n 0, 1) := by decide +kernel
theorem dX5_init_88 : decode cX5_init 88 = .ok (.iconst (-1), 1) := by decide +kernel
theorem dX5_init_89 : decode cX5_init 89 = .ok (.putfield 58, 3) := by decide +kernel
theorem dX5_init_92 : decode cX5_init 92 = .ok (.aload_n 0, 1) := by decide +kernel
theorem dX5_init_93 : decode cX5_init 93 = .ok (.iconst (-1), 1) := by decide +kernel
theorem dX5_init_94 : decode cX5_init 94 = .ok (.putfield 61, 3) := by decide +kernel
theorem dX5_init_97 : decode cX5_init 97 = .ok (.return_, 1) := by decide +kernel
theorem dX5_hasRoom_0 : decode cX5_hasRoom 0 = .ok (.aload_n 0, 1) := by decide +kernel
theorem dX5_hasRoom_1 : decode cX5_hasRoom 1 = .ok (.getfield 15, 3) := by decide +kernel
theorem dX5_hasRoom_4 : decode cX5_hasRoom 4 = .ok (.iload_n 1, 1) := by decide +kernel
theorem dX5_hasRoom_5 : decode cX5_hasRoom 5 = .ok (.iadd, 1) := by decide +kernel
theorem dX5_hasRoom_6 : decode cX5_hasRoom 6 = .ok (.sipush 400, 3) := by decide +kernel
theorem dX5_hasRoom_9 : decode cX5_hasRoom 9 = .ok (.if_icmp .gt 7, 3) := by decide +kernel
theorem dX5_hasRoom_12 : decode cX5_hasRoom 12 = .ok (.iconst 1, 1) := by decide +kernel
theorem dX5_hasRoom_13 : decode cX5_hasRoom 13 = .ok (.goto 4, 3) := by decide +kernel
theorem dX5_hasRoom_16 : decode cX5_hasRoom 16 = .ok (.iconst 0, 1) := by decide +kernel
theorem dX5_hasRoom_17 : decode cX5_hasRoom 17 = .ok (.ireturn, 1) := by decide +kernel
theorem dX5_append_0 : decode cX5_append 0 = .ok (.bipush 24, 2) := by decide +kernel
theorem dX5_append_2 : decode cX5_append 2 = .ok (.istore_n 2, 1) := by decide +kernel
theorem dX5_append_3 : decode cX5_append 3 = .ok (.iload_n 2, 1) := by decide +kernel
theorem dX5_append_4 : decode cX5_append 4 = .ok (.ifCond .lt 42, 3) := by decide +kernel
theorem dX5_append_7 : decode cX5_append 7 = .ok (.aload_n 0, 1) := by decide +kernel
theorem dX5_append_8 : decode cX5_append 8 = .ok (.getfield 15, 3) := by decide +kernel
theorem dX5_append_11 : decode cX5_append 11 = .ok (.sipush 400, 3) := by decide +kernel
theorem dX5_append_14 : decode cX5_append 14 = .ok (.if_icmp .ge 32, 3) := by decide +kernel
theorem dX5_append_17 : decode cX5_append 17 = .ok (.aload_n 0, 1) := by decide +kernel
theorem dX5_append_18 : decode cX5_append 18 = .ok (.getfield 11, 3) := by decide +kernel
theorem dX5_append_21 : decode cX5_append 21 = .ok (.aload_n 0, 1) := by decide +kernel
theorem dX5_append_22 : decode cX5_append 22 = .ok (.getfield 15, 3) := by decide +kernel
theorem dX5_append_25 : decode cX5_append 25 = .ok (.iload_n 1, 1) := by decide +kernel
theorem dX5_append_26 : decode cX5_append 26 = .ok (.iload_n 2, 1) := by decide +kernel
theorem dX5_append_27 : decode cX5_append 27 = .ok (.iushr, 1) := by decide +kernel
theorem dX5_append_28 : decode cX5_append 28 = .ok (.i2b, 1) := by decide +kernel
theorem dX5_append_29 : decode cX5_append 29 = .ok (.bastore, 1) := by decide +kernel
theorem dX5_append_30 : decode cX5_append 30 = .ok (.aload_n 0, 1) := by decide +kernel
theorem dX5_append_31 : decode cX5_append 31 = .ok (.dup, 1) := by decide +kernel
theorem dX5_append_32 : decode cX5_append 32 = .ok (.getfield 15, 3) := by decide +kernel
theorem dX5_append_35 : decode cX5_append 35 = .ok (.iconst 1, 1) := by decide +kernel
theorem dX5_append_36 : decode cX5_append 36 = .ok (.iadd, 1) := by decide +kernel
theorem dX5_append_37 : decode cX5_append 37 = .ok (.putfield 15, 3) := by decide +kernel
theorem dX5_append_40 : decode cX5_append 40 = .ok (.iinc 2 (-8), 3) := by decide +kernel
theorem dX5_append_43 : decode cX5_append 43 = .ok (.goto (-40), 3) := by decide +kernel
theorem dX5_append_46 : decode cX5_append 46 = .ok (.return_, 1) := by decide +kernel
theorem dX5_parse_0 : decode cX5_parse 0 = .ok (.aload_n 0, 1) := by decide +kernel
theorem dX5_parse_1 : decode cX5_parse 1 = .ok (.iload_n 1, 1) := by decide +kernel
theorem dX5_parse_2 : decode cX5_parse 2 = .ok (.aload_n 0, 1) := by decide +kernel
theorem dX5_parse_3 : decode cX5_parse 3 = .ok (.getfield 15, 3) := by decide +kernel
theorem dX5_parse_6 : decode cX5_parse 6 = .ok (.invokestatic 64, 3) := by decide +kernel
theorem dX5_parse_9 : decode cX5_parse 9 = .ok (.putfield 19, 3) := by decide +kernel
theorem dX5_parse_12 : decode cX5_parse 12 = .ok (.aload_n 0, 1) := by decide +kernel
theorem dX5_parse_13 : decode cX5_parse 13 = .ok (.iconst 0, 1) := by decide +kernel
theorem dX5_parse_14 : decode cX5_parse 14 = .ok (.putfield 22, 3) := by decide +kernel
theorem dX5_parse_17 : decode cX5_parse 17 = .ok (.aload_n 0, 1) := by decide +kernel
theorem dX5_parse_18 : decode cX5_parse 18 = .ok (.iconst 0, 1) := by decide +kernel
theorem dX5_parse_19 : decode cX5_parse 19 = .ok (.putfield 34, 3) := by decide +kernel
theorem dX5_parse_22 : decode cX5_parse 22 = .ok (.aload_n 0, 1) := by decide +kernel
theorem dX5_parse_23 : decode cX5_parse 23 = .ok (.iconst 0, 1) := by decide +kernel
theorem dX5_parse_24 : decode cX5_parse 24 = .ok (.putfield 37, 3) := by decide +kernel
theorem dX5_parse_27 : decode cX5_parse 27 = .ok (.aload_n 0, 1) := by decide +kernel
theorem dX5_parse_28 : decode cX5_parse 28 = .ok (.iconst 0, 1) := by decide +kernel
theorem dX5_parse_29 : decode cX5_parse 29 = .ok (.putfield 58, 3) := by decide +kernel
theorem dX5_parse_32 : decode cX5_parse 32 = .ok (.aload_n 0, 1) := by decide +kernel
theorem dX5_parse_33 : decode cX5_parse 33 = .ok (.iconst (-1), 1) := by decide +kernel
theorem dX5_parse_34 : decode cX5_parse 34 = .ok (.putfield 61, 3) := by decide +kernel
theorem dX5_parse_37 : decode cX5_parse 37 = .ok (.aload_n 0, 1) := by decide +kernel
theorem dX5_parse_38 : decode cX5_parse 38 = .ok (.iconst 0, 1) := by decide +kernel
theorem dX5_parse_39 : decode cX5_parse 39 = .ok (.putfield 15, 3) := by decide +kernel
theorem dX5_parse_42 : decode cX5_parse 42 = .ok (.aload_n 0, 1) := by decide +kernel
theorem dX5_parse_43 : decode cX5_parse 43 = .ok (.invokevirtual 70, 3) := by decide +kernel
theorem dX5_parse_46 : decode cX5_parse 46 = .ok (.iconst 1, 1) := by decide +kernel
theorem dX5_parse_47 : decode cX5_parse 47 = .ok (.istore_n 2, 1) := by decide +kernel
theorem dX5_parse_48 : decode cX5_parse 48 = .ok (.iconst 0, 1) := by decide +kernel
theorem dX5_parse_49 : decode cX5_parse 49 = .ok (.istore_n 3, 1) := by decide +kernel
theorem dX5_parse_50 : decode cX5_parse 50 = .ok (.iload_n 3, 1) := by decide +kernel
theorem dX5_parse_51 : decode cX5_parse 51 = .ok (.sipush 400, 3) := by decide +kernel
theorem dX5_parse_54 : decode cX5_parse 54 = .ok (.if_icmp .gt 59, 3) := by decide +kernel
theorem dX5_parse_57 : decode cX5_parse 57 = .ok (.iload_n 2, 1) := by decide +kernel
theorem dX5_parse_58 : decode cX5_parse 58 = .ok (.ifCond .eq 55, 3) := by decide +kernel
theorem dX5_parse_61 : decode cX5_parse 61 = .ok (.aload_n 0, 1) := by decide +kernel
theorem dX5_parse_62 : decode cX5_parse 62 = .ok (.getfield 25, 3) := by decide +kernel
theorem dX5_parse_65 : decode cX5_parse 65 = .ok (.ifCond .eq 48, 3) := by decide +kernel
theorem dX5_parse_68 : decode cX5_parse 68 = .ok (.aload_n 0, 1) := by decide +kernel
theorem dX5_parse_69 : decode cX5_parse 69 = .ok (.getfield 34, 3) := by decide +kernel
theorem dX5_parse_72 : decode cX5_parse 72 = .ok (.ifCond .ne 13, 3) := by decide +kernel
theorem dX5_parse_75 : decode cX5_parse 75 = .ok (.aload_n 0, 1) := by decide +kernel
theorem dX5_parse_76 : decode cX5_parse 76 = .ok (.invokevirtual 73, 3) := by decide +kernel
theorem dX5_parse_79 : decode cX5_parse 79 = .ok (.ifCond .eq 26, 3) := by decide +kernel
theorem dX5_parse_82 : decode cX5_parse 82 = .ok (.goto 10, 3) := by decide +kernel
theorem dX5_parse_85 : decode cX5_parse 85 = .ok (.aload_n 0, 1) := by decide +kernel
theorem dX5_parse_86 : decode cX5_parse 86 = .ok (.invokevirtual 77, 3) := by decide +kernel
theorem dX5_parse_89 : decode cX5_parse 89 = .ok (.ifCond .eq 16, 3) := by decide +kernel
theorem dX5_parse_92 : decode cX5_parse 92 = .ok (.aload_n 0, 1) := by decide +kernel
theorem dX5_parse_93 : decode cX5_parse 93 = .ok (.bipush 59, 2) := by decide +kernel
theorem dX5_parse_95 : decode cX5_parse 95 = .ok (.invokevirtual 80, 3) := by decide +kernel
theorem dX5_parse_98 : decode cX5_parse 98 = .ok (.ifCond .eq 7, 3) := by decide +kernel
theorem dX5_parse_101 : decode cX5_parse 101 = .ok (.iconst 1, 1) := by decide +kernel
theorem dX5_parse_102 : decode cX5_parse 102 = .ok (.goto 4, 3) := by decide +kernel
theorem dX5_parse_105 : decode cX5_parse 105 = .ok (.iconst 0, 1) := by decide +kernel
theorem dX5_parse_106 : decode cX5_parse 106 = .ok (.istore_n 2, 1) := by decide +kernel
theorem dX5_parse_107 : decode cX5_parse 107 = .ok (.iinc 3 1, 3) := by decide +kernel
theorem dX5_parse_110 : decode cX5_parse 110 = .ok (.goto (-60), 3) := by decide +kernel
theorem dX5_parse_113 : decode cX5_parse 113 = .ok (.iload_n 2, 1) := by decide +kernel
theorem dX5_parse_114 : decode cX5_parse 114 = .ok (.ireturn, 1) := by decide +kernel
theorem dX5_scan_0 : decode cX5_scan 0 = .ok (.aload_n 0, 1) := by decide +kernel
theorem dX5_scan_1 : decode cX5_scan 1 = .ok (.getfield 22, 3) := by decide +kernel
theorem dX5_scan_4 : decode cX5_scan 4 = .ok (.aload_n 0, 1) := by decide +kernel
theorem dX5_scan_5 : decode cX5_scan 5 = .ok (.getfield 19, 3) := by decide +kernel
theorem dX5_scan_8 : decode cX5_scan 8 = .ok (.if_icmp .ge 44, 3) := by decide +kernel
theorem dX5_scan_11 : decode cX5_scan 11 = .ok (.aload_n 0, 1) := by decide +kernel
theorem dX5_scan_12 : decode cX5_scan 12 = .ok (.getfield 11, 3) := by decide +kernel
theorem dX5_scan_15 : decode cX5_scan 15 = .ok (.aload_n 0, 1) := by decide +kernel
theorem dX5_scan_16 : decode cX5_scan 16 = .ok (.getfield 22, 3) := by decide +kernel
theorem dX5_scan_19 : decode cX5_scan 19 = .ok (.baload, 1) := by decide +kernel
theorem dX5_scan_20 : decode cX5_scan 20 = .ok (.bipush 32, 2) := by decide +kernel
theorem dX5_scan_22 : decode cX5_scan 22 = .ok (.if_icmp .eq 17, 3) := by decide +kernel
theorem dX5_scan_25 : decode cX5_scan 25 = .ok (.aload_n 0, 1) := by decide +kernel
theorem dX5_scan_26 : decode cX5_scan 26 = .ok (.getfield 11, 3) := by decide +kernel
theorem dX5_scan_29 : decode cX5_scan 29 = .ok (.aload_n 0, 1) := by decide +kernel
theorem dX5_scan_30 : decode cX5_scan 30 = .ok (.getfield 22, 3) := by decide +kernel
theorem dX5_scan_33 : decode cX5_scan 33 = .ok (.baload, 1) := by decide +kernel
theorem dX5_scan_34 : decode cX5_scan 34 = .ok (.bipush 10, 2) := by decide +kernel
theorem dX5_scan_36 : decode cX5_scan 36 = .ok (.if_icmp .ne 16, 3) := by decide +kernel
theorem dX5_scan_39 : decode cX5_scan 39 = .ok (.aload_n 0, 1) := by decide +kernel
theorem dX5_scan_40 : decode cX5_scan 40 = .ok (.dup, 1) := by decide +kernel
theorem dX5_scan_41 : decode cX5_scan 41 = .ok (.getfield 22, 3) := by decide +kernel
theorem dX5_scan_44 : decode cX5_scan 44 = .ok (.iconst 1, 1) := by decide +kernel
theorem dX5_scan_45 : decode cX5_scan 45 = .ok (.iadd, 1) := by decide +kernel
theorem dX5_scan_46 : decode cX5_scan 46 = .ok (.putfield 22, 3) := by decide +kernel
theorem dX5_scan_49 : decode cX5_scan 49 = .ok (.goto (-49), 3) := by decide +kernel
theorem dX5_scan_52 : decode cX5_scan 52 = .ok (.aload_n 0, 1) := by decide +kernel
theorem dX5_scan_53 : decode cX5_scan 53 = .ok (.aload_n 0, 1) := by decide +kernel
theorem dX5_scan_54 : decode cX5_scan 54 = .ok (.getfield 22, 3) := by decide +kernel
theorem dX5_scan_57 : decode cX5_scan 57 = .ok (.putfield 28, 3) := by decide +kernel
theorem dX5_scan_60 : decode cX5_scan 60 = .ok (.aload_n 0, 1) := by decide +kernel
theorem dX5_scan_61 : decode cX5_scan 61 = .ok (.getfield 22, 3) := by decide +kernel
theorem dX5_scan_64 : decode cX5_scan 64 = .ok (.aload_n 0, 1) := by decide +kernel
theorem dX5_scan_65 : decode cX5_scan 65 = .ok (.getfield 19, 3) := by decide +kernel
theorem dX5_scan_68 : decode cX5_scan 68 = .ok (.if_icmp .lt 9, 3) := by decide +kernel
theorem dX5_scan_71 : decode cX5_scan 71 = .ok (.aload_n 0, 1) := by decide +kernel
theorem dX5_scan_72 : decode cX5_scan 72 = .ok (.iconst 0, 1) := by decide +kernel
theorem dX5_scan_73 : decode cX5_scan 73 = .ok (.putfield 25, 3) := by decide +kernel
theorem dX5_scan_76 : decode cX5_scan 76 = .ok (.return_, 1) := by decide +kernel
theorem dX5_scan_77 : decode cX5_scan 77 = .ok (.aload_n 0, 1) := by decide +kernel
theorem dX5_scan_78 : decode cX5_scan 78 = .ok (.getfield 11, 3) := by decide +kernel
theorem dX5_scan_81 : decode cX5_scan 81 = .ok (.aload_n 0, 1) := by decide +kernel
theorem dX5_scan_82 : decode cX5_scan 82 = .ok (.getfield 22, 3) := by decide +kernel
theorem dX5_scan_85 : decode cX5_scan 85 = .ok (.baload, 1) := by decide +kernel
theorem dX5_scan_86 : decode cX5_scan 86 = .ok (.istore_n 1, 1) := by decide +kernel
theorem dX5_scan_87 : decode cX5_scan 87 = .ok (.iload_n 1, 1) := by decide +kernel
theorem dX5_scan_88 : decode cX5_scan 88 = .ok (.invokestatic 84, 3) := by decide +kernel
theorem dX5_scan_91 : decode cX5_scan 91 = .ok (.ifCond .eq 68, 3) := by decide +kernel
theorem dX5_scan_94 : decode cX5_scan 94 = .ok (.aload_n 0, 1) := by decide +kernel
theorem dX5_scan_95 : decode cX5_scan 95 = .ok (.getfield 22, 3) := by decide +kernel
theorem dX5_scan_98 : decode cX5_scan 98 = .ok (.aload_n 0, 1) := by decide +kernel
theorem dX5_scan_99 : decode cX5_scan 99 = .ok (.getfield 19, 3) := by decide +kernel
theorem dX5_scan_102 : decode cX5_scan 102 = .ok (.if_icmp .ge 31, 3) := by decide +kernel
theorem dX5_scan_105 : decode cX5_scan 105 = .ok (.aload_n 0, 1) := by decide +kernel
theorem dX5_scan_106 : decode cX5_scan 106 = .ok (.getfield 11, 3) := by decide +kernel
theorem dX5_scan_109 : decode cX5_scan 109 = .ok (.aload_n 0, 1) := by decide +kernel
theorem dX5_scan_110 : decode cX5_scan 110 = .ok (.getfield 22, 3) := by decide +kernel
theorem dX5_scan_113 : decode cX5_scan 113 = .ok (.baload, 1) := by decide +kernel
theorem dX5_scan_114 : decode cX5_scan 114 = .ok (.invokestatic 84, 3) := by decide +kernel
theorem dX5_scan_117 : decode cX5_scan 117 = .ok (.ifCond .eq 16, 3) := by decide +kernel
theorem dX5_scan_120 : decode cX5_scan 120 = .ok (.aload_n 0, 1) := by decide +kernel
theorem dX5_scan_121 : decode cX5_scan 121 = .ok (.dup, 1) := by decide +kernel
theorem dX5_scan_122 : decode cX5_scan 122 = .ok (.getfield 22, 3) := by decide +kernel
theorem dX5_scan_125 : decode cX5_scan 125 = .ok (.iconst 1, 1) := by decide +kernel
theorem dX5_scan_126 : decode cX5_scan 126 = .ok (.iadd, 1) := by decide +kernel
theorem dX5_scan_127 : decode cX5_scan 127 = .ok (.putfield 22, 3) := by decide +kernel
theorem dX5_scan_130 : decode cX5_scan 130 = .ok (.goto (-36), 3) := by decide +kernel
theorem dX5_scan_133 : decode cX5_scan 133 = .ok (.aload_n 0, 1) := by decide +kernel
theorem dX5_scan_134 : decode cX5_scan 134 = .ok (.aload_n 0, 1) := by decide +kernel
theorem dX5_scan_135 : decode cX5_scan 135 = .ok (.getfield 22, 3) := by decide +kernel
theorem dX5_scan_138 : decode cX5_scan 138 = .ok (.aload_n 0, 1) := by decide +kernel
theorem dX5_scan_139 : decode cX5_scan 139 = .ok (.getfield 28, 3) := by decide +kernel
theorem dX5_scan_142 : decode cX5_scan 142 = .ok (.isub, 1) := by decide +kernel
theorem dX5_scan_143 : decode cX5_scan 143 = .ok (.bipush 8, 2) := by decide +kernel
theorem dX5_scan_145 : decode cX5_scan 145 = .ok (.if_icmp .gt 7, 3) := by decide +kernel
theorem dX5_scan_148 : decode cX5_scan 148 = .ok (.iconst 1, 1) := by decide +kernel
theorem dX5_scan_149 : decode cX5_scan 149 = .ok (.goto 4, 3) := by decide +kernel
theorem dX5_scan_152 : decode cX5_scan 152 = .ok (.iconst 3, 1) := by decide +kernel
theorem dX5_scan_153 : decode cX5_scan 153 = .ok (.putfield 25, 3) := by decide +kernel
theorem dX5_scan_156 : decode cX5_scan 156 = .ok (.goto 43, 3) := by decide +kernel
theorem dX5_scan_159 : decode cX5_scan 159 = .ok (.iload_n 1, 1) := by decide +kernel
theorem dX5_scan_160 : decode cX5_scan 160 = .ok (.invokestatic 87, 3) := by decide +kernel
theorem dX5_scan_163 : decode cX5_scan 163 = .ok (.ifCond .eq 10, 3) := by decide +kernel
theorem dX5_scan_166 : decode cX5_scan 166 = .ok (.aload_n 0, 1) := by decide +kernel
theorem dX5_scan_167 : decode cX5_scan 167 = .ok (.invokevirtual 90, 3) := by decide +kernel
theorem dX5_scan_170 : decode cX5_scan 170 = .ok (.goto 29, 3) := by decide +kernel
theorem dX5_scan_173 : decode cX5_scan 173 = .ok (.aload_n 0, 1) := by decide +kernel
theorem dX5_scan_174 : decode cX5_scan 174 = .ok (.dup, 1) := by decide +kernel
theorem dX5_scan_175 : decode cX5_scan 175 = .ok (.getfield 22, 3) := by decide +kernel
theorem dX5_scan_178 : decode cX5_scan 178 = .ok (.iconst 1, 1) := by decide +kernel
theorem dX5_scan_179 : decode cX5_scan 179 = .ok (.iadd, 1) := by decide +kernel
theorem dX5_scan_180 : decode cX5_scan 180 = .ok (.putfield 22, 3) := by decide +kernel
theorem dX5_scan_183 : decode cX5_scan 183 = .ok (.aload_n 0, 1) := by decide +kernel
theorem dX5_scan_184 : decode cX5_scan 184 = .ok (.iload_n 1, 1) := by decide +kernel
theorem dX5_scan_185 : decode cX5_scan 185 = .ok (.invokestatic 93, 3) := by decide +kernel
theorem dX5_scan_188 : decode cX5_scan 188 = .ok (.ifCond .eq 7, 3) := by decide +kernel
theorem dX5_scan_191 : decode cX5_scan 191 = .ok (.iload_n 1, 1) := by decide +kernel
theorem dX5_scan_192 : decode cX5_scan 192 = .ok (.goto 4, 3) := by decide +kernel
theorem dX5_scan_195 : decode cX5_scan 195 = .ok (.iconst 3, 1) := by decide +kernel
theorem dX5_scan_196 : decode cX5_scan 196 = .ok (.putfield 25, 3) := by decide +kernel
theorem dX5_scan_199 : decode cX5_scan 199 = .ok (.return_, 1) := by decide +kernel
theorem dX5_scanNumber_0 : decode cX5_scanNumber 0 = .ok (.aload_n 0, 1) := by decide +kernel
theorem dX5_scanNumber_1 : decode cX5_scanNumber 1 = .ok (.iconst 0, 1) := by decide +kernel
theorem dX5_scanNumber_2 : decode cX5_scanNumber 2 = .ok (.putfield 31, 3) := by decide +kernel
theorem dX5_scanNumber_5 : decode cX5_scanNumber 5 = .ok (.aload_n 0, 1) := by decide +kernel
theorem dX5_scanNumber_6 : decode cX5_scanNumber 6 = .ok (.getfield 22, 3) := by decide +kernel
theorem dX5_scanNumber_9 : decode cX5_scanNumber 9 = .ok (.aload_n 0, 1) := by decide +kernel
theorem dX5_scanNumber_10 : decode cX5_scanNumber 10 = .ok (.getfield 19, 3) := by decide +kernel
theorem dX5_scanNumber_13 : decode cX5_scanNumber 13 = .ok (.if_icmp .ge 55, 3) := by decide +kernel
theorem dX5_scanNumber_16 : decode cX5_scanNumber 16 = .ok (.aload_n 0, 1) := by decide +kernel
theorem dX5_scanNumber_17 : decode cX5_scanNumber 17 = .ok (.getfield 11, 3) := by decide +kernel
theorem dX5_scanNumber_20 : decode cX5_scanNumber 20 = .ok (.aload_n 0, 1) := by decide +kernel
theorem dX5_scanNumber_21 : decode cX5_scanNumber 21 = .ok (.getfield 22, 3) := by decide +kernel
theorem dX5_scanNumber_24 : decode cX5_scanNumber 24 = .ok (.baload, 1) := by decide +kernel
theorem dX5_scanNumber_25 : decode cX5_scanNumber 25 = .ok (.invokestatic 87, 3) := by decide +kernel
theorem dX5_scanNumber_28 : decode cX5_scanNumber 28 = .ok (.ifCond .eq 40, 3) := by decide +kernel
theorem dX5_scanNumber_31 : decode cX5_scanNumber 31 = .ok (.aload_n 0, 1) := by decide +kernel
theorem dX5_scanNumber_32 : decode cX5_scanNumber 32 = .ok (.aload_n 0, 1) := by decide +kernel
theorem dX5_scanNumber_33 : decode cX5_scanNumber 33 = .ok (.getfield 31, 3) := by decide +kernel
theorem dX5_scanNumber_36 : decode cX5_scanNumber 36 = .ok (.bipush 10, 2) := by decide +kernel
theorem dX5_scanNumber_38 : decode cX5_scanNumber 38 = .ok (.imul, 1) := by decide +kernel
theorem dX5_scanNumber_39 : decode cX5_scanNumber 39 = .ok (.aload_n 0, 1) := by decide +kernel
theorem dX5_scanNumber_40 : decode cX5_scanNumber 40 = .ok (.getfield 11, 3) := by decide +kernel
theorem dX5_scanNumber_43 : decode cX5_scanNumber 43 = .ok (.aload_n 0, 1) := by decide +kernel
theorem dX5_scanNumber_44 : decode cX5_scanNumber 44 = .ok (.getfield 22, 3) := by decide +kernel
theorem dX5_scanNumber_47 : decode cX5_scanNumber 47 = .ok (.baload, 1) := by decide +kernel
theorem dX5_scanNumber_48 : decode cX5_scanNumber 48 = .ok (.iadd, 1) := by decide +kernel
theorem dX5_scanNumber_49 : decode cX5_scanNumber 49 = .ok (.bipush 48, 2) := by decide +kernel
theorem dX5_scanNumber_51 : decode cX5_scanNumber 51 = .ok (.isub, 1) := by decide +kernel
theorem dX5_scanNumber_52 : decode cX5_scanNumber 52 = .ok (.putfield 31, 3) := by decide +kernel
theorem dX5_scanNumber_55 : decode cX5_scanNumber 55 = .ok (.aload_n 0, 1) := by decide +kernel
theorem dX5_scanNumber_56 : decode cX5_scanNumber 56 = .ok (.dup, 1) := by decide +kernel
theorem dX5_scanNumber_57 : decode cX5_scanNumber 57 = .ok (.getfield 22, 3) := by decide +kernel
theorem dX5_scanNumber_60 : decode cX5_scanNumber 60 = .ok (.iconst 1, 1) := by decide +kernel
theorem dX5_scanNumber_61 : decode cX5_scanNumber 61 = .ok (.iadd, 1) := by decide +kernel
theorem dX5_scanNumber_62 : decode cX5_scanNumber 62 = .ok (.putfield 22, 3) := by decide +kernel
theorem dX5_scanNumber_65 : decode cX5_scanNumber 65 = .ok (.goto (-60), 3) := by decide +kernel
theorem dX5_scanNumber_68 : decode cX5_scanNumber 68 = .ok (.aload_n 0, 1) := by decide +kernel
theorem dX5_scanNumber_69 : decode cX5_scanNumber 69 = .ok (.aload_n 0, 1) := by decide +kernel
theorem dX5_scanNumber_70 : decode cX5_scanNumber 70 = .ok (.getfield 22, 3) := by decide +kernel
theorem dX5_scanNumber_73 : decode cX5_scanNumber 73 = .ok (.aload_n 0, 1) := by decide +kernel
theorem dX5_scanNumber_74 : decode cX5_scanNumber 74 = .ok (.getfield 28, 3) := by decide +kernel
theorem dX5_scanNumber_77 : decode cX5_scanNumber 77 = .ok (.isub, 1) := by decide +kernel
theorem dX5_scanNumber_78 : decode cX5_scanNumber 78 = .ok (.iconst 2, 1) := by decide +kernel
theorem dX5_scanNumber_79 : decode cX5_scanNumber 79 = .ok (.if_icmp .gt 7, 3) := by decide +kernel
theorem dX5_scanNumber_82 : decode cX5_scanNumber 82 = .ok (.iconst 2, 1) := by decide +kernel
theorem dX5_scanNumber_83 : decode cX5_scanNumber 83 = .ok (.goto 4, 3) := by decide +kernel
theorem dX5_scanNumber_86 : decode cX5_scanNumber 86 = .ok (.iconst 3, 1) := by decide +kernel
theorem dX5_scanNumber_87 : decode cX5_scanNumber 87 = .ok (.putfield 25, 3) := by decide +kernel
theorem dX5_scanNumber_90 : decode cX5_scanNumber 90 = .ok (.return_, 1) := by decide +kernel
theorem dX5_isLetter_0 : decode cX5_isLetter 0 = .ok (.iload_n 0, 1) := by decide +kernel
theorem dX5_isLetter_1 : decode cX5_isLetter 1 = .ok (.bipush 97, 2) := by decide +kernel
theorem dX5_isLetter_3 : decode cX5_isLetter 3 = .ok (.if_icmp .lt 13, 3) := by decide +kernel
theorem dX5_isLetter_6 : decode cX5_isLetter 6 = .ok (.iload_n 0, 1) := by decide +kernel
theorem dX5_isLetter_7 : decode cX5_isLetter 7 = .ok (.bipush 122, 2) := by decide +kernel
theorem dX5_isLetter_9 : decode cX5_isLetter 9 = .ok (.if_icmp .gt 7, 3) := by decide +kernel
theorem dX5_isLetter_12 : decode cX5_isLetter 12 = .ok (.iconst 1, 1) := by decide +kernel
theorem dX5_isLetter_13 : decode cX5_isLetter 13 = .ok (.goto 4, 3) := by decide +kernel
theorem dX5_isLetter_16 : decode cX5_isLetter 16 = .ok (.iconst 0, 1) := by decide +kernel
theorem dX5_isLetter_17 : decode cX5_isLetter 17 = .ok (.ireturn, 1) := by decide +kernel
theorem dX5_isDigit_0 : decode cX5_isDigit 0 = .ok (.iload_n 0, 1) := by decide +kernel
theorem dX5_isDigit_1 : decode cX5_isDigit 1 = .ok (.bipush 48, 2) := by decide +kernel
theorem dX5_isDigit_3 : decode cX5_isDigit 3 = .ok (.if_icmp .lt 13, 3) := by decide +kernel
theorem dX5_isDigit_6 : decode cX5_isDigit 6 = .ok (.iload_n 0, 1) := by decide +kernel
theorem dX5_isDigit_7 : decode cX5_isDigit 7 = .ok (.bipush 57, 2) := by decide +kernel
theorem dX5_isDigit_9 : decode cX5_isDigit 9 = .ok (.if_icmp .gt 7, 3) := by decide +kernel
theorem dX5_isDigit_12 : decode cX5_isDigit 12 = .ok (.iconst 1, 1) := by decide +kernel
theorem dX5_isDigit_13 : decode cX5_isDigit 13 = .ok (.goto 4, 3) := by decide +kernel
theorem dX5_isDigit_16 : decode cX5_isDigit 16 = .ok (.iconst 0, 1) := by decide +kernel
theorem dX5_isDigit_17 : decode cX5_isDigit 17 = .ok (.ireturn, 1) := by decide +kernel
theorem dX5_isSign_0 : decode cX5_isSign 0 = .ok (.iload_n 0, 1) := by decide +kernel
theorem dX5_isSign_1 : decode cX5_isSign 1 = .ok (.bipush 40, 2) := by decide +kernel
theorem dX5_isSign_3 : decode cX5_isSign 3 = .ok (.if_icmp .eq 21, 3) := by decide +kernel
theorem dX5_isSign_6 : decode cX5_isSign 6 = .ok (.iload_n 0, 1) := by decide +kernel
theorem dX5_isSign_7 : decode cX5_isSign 7 = .ok (.bipush 41, 2) := by decide +kernel
theorem dX5_isSign_9 : decode cX5_isSign 9 = .ok (.if_icmp .eq 15, 3) := by decide +kernel
theorem dX5_isSign_12 : decode cX5_isSign 12 = .ok (.iload_n 0, 1) := by decide +kernel
theorem dX5_isSign_13 : decode cX5_isSign 13 = .ok (.bipush 39, 2) := by decide +kernel
theorem dX5_isSign_15 : decode cX5_isSign 15 = .ok (.if_icmp .eq 9, 3) := by decide +kernel
theorem dX5_isSign_18 : decode cX5_isSign 18 = .ok (.iload_n 0, 1) := by decide +kernel
theorem dX5_isSign_19 : decode cX5_isSign 19 = .ok (.bipush 59, 2) := by decide +kernel
theorem dX5_isSign_21 : decode cX5_isSign 21 = .ok (.if_icmp .ne 7, 3) := by decide +kernel
theorem dX5_isSign_24 : decode cX5_isSign 24 = .ok (.iconst 1, 1) := by decide +kernel
theorem dX5_isSign_25 : decode cX5_isSign 25 = .ok (.goto 4, 3) := by decide +kernel
theorem dX5_isSign_28 : decode cX5_isSign 28 = .ok (.iconst 0, 1) := by decide +kernel
theorem dX5_isSign_29 : decode cX5_isSign 29 = .ok (.ireturn, 1) := by decide +kernel
theorem dX5_fail_0 : decode cX5_fail 0 = .ok (.aload_n 0, 1) := by decide +kernel
theorem dX5_fail_1 : decode cX5_fail 1 = .ok (.iload_n 1, 1) := by decide +kernel
theorem dX5_fail_2 : decode cX5_fail 2 = .ok (.putfield 58, 3) := by decide +kernel
theorem dX5_fail_5 : decode cX5_fail 5 = .ok (.aload_n 0, 1) := by decide +kernel
theorem dX5_fail_6 : decode cX5_fail 6 = .ok (.aload_n 0, 1) := by decide +kernel
theorem dX5_fail_7 : decode cX5_fail 7 = .ok (.getfield 28, 3) := by decide +kernel
theorem dX5_fail_10 : decode cX5_fail 10 = .ok (.putfield 61, 3) := by decide +kernel
theorem dX5_fail_13 : decode cX5_fail 13 = .ok (.iconst 0, 1) := by decide +kernel
theorem dX5_fail_14 : decode cX5_fail 14 = .ok (.ireturn, 1) := by decide +kernel
theorem dX5_need_0 : decode cX5_need 0 = .ok (.aload_n 0, 1) := by decide +kernel
theorem dX5_need_1 : decode cX5_need 1 = .ok (.getfield 25, 3) := by decide +kernel
theorem dX5_need_4 : decode cX5_need 4 = .ok (.iload_n 1, 1) := by decide +kernel
theorem dX5_need_5 : decode cX5_need 5 = .ok (.if_icmp .ne 5, 3) := by decide +kernel
theorem dX5_need_8 : decode cX5_need 8 = .ok (.iconst 1, 1) := by decide +kernel
theorem dX5_need_9 : decode cX5_need 9 = .ok (.ireturn, 1) := by decide +kernel
theorem dX5_need_10 : decode cX5_need 10 = .ok (.aload_n 0, 1) := by decide +kernel
theorem dX5_need_11 : decode cX5_need 11 = .ok (.aload_n 0, 1) := by decide +kernel
theorem dX5_need_12 : decode cX5_need 12 = .ok (.getfield 25, 3) := by decide +kernel
theorem dX5_need_15 : decode cX5_need 15 = .ok (.iconst 3, 1) := by decide +kernel
theorem dX5_need_16 : decode cX5_need 16 = .ok (.if_icmp .ne 7, 3) := by decide +kernel
theorem dX5_need_19 : decode cX5_need 19 = .ok (.iconst 1, 1) := by decide +kernel
theorem dX5_need_20 : decode cX5_need 20 = .ok (.goto 4, 3) := by decide +kernel
theorem dX5_need_23 : decode cX5_need 23 = .ok (.iconst 2, 1) := by decide +kernel
theorem dX5_need_24 : decode cX5_need 24 = .ok (.invokevirtual 96, 3) := by decide +kernel
theorem dX5_need_27 : decode cX5_need 27 = .ok (.ireturn, 1) := by decide +kernel
theorem dX5_says_0 : decode cX5_says 0 = .ok (.aload_n 0, 1) := by decide +kernel
theorem dX5_says_1 : decode cX5_says 1 = .ok (.getfield 22, 3) := by decide +kernel
theorem dX5_says_4 : decode cX5_says 4 = .ok (.aload_n 0, 1) := by decide +kernel
theorem dX5_says_5 : decode cX5_says 5 = .ok (.getfield 28, 3) := by decide +kernel
theorem dX5_says_8 : decode cX5_says 8 = .ok (.isub, 1) := by decide +kernel
theorem dX5_says_9 : decode cX5_says 9 = .ok (.aload_n 1, 1) := by decide +kernel
theorem dX5_says_10 : decode cX5_says 10 = .ok (.invokevirtual 99, 3) := by decide +kernel
theorem dX5_says_13 : decode cX5_says 13 = .ok (.if_icmp .eq 5, 3) := by decide +kernel
theorem dX5_says_16 : decode cX5_says 16 = .ok (.iconst 0, 1) := by decide +kernel
theorem dX5_says_17 : decode cX5_says 17 = .ok (.ireturn, 1) := by decide +kernel
theorem dX5_says_18 : decode cX5_says 18 = .ok (.iconst 0, 1) := by decide +kernel
theorem dX5_says_19 : decode cX5_says 19 = .ok (.istore_n 2, 1) := by decide +kernel
theorem dX5_says_20 : decode cX5_says 20 = .ok (.iload_n 2, 1) := by decide +kernel
theorem dX5_says_21 : decode cX5_says 21 = .ok (.aload_n 1, 1) := by decide +kernel
theorem dX5_says_22 : decode cX5_says 22 = .ok (.invokevirtual 99, 3) := by decide +kernel
theorem dX5_says_25 : decode cX5_says 25 = .ok (.if_icmp .ge 42, 3) := by decide +kernel
theorem dX5_says_28 : decode cX5_says 28 = .ok (.aload_n 0, 1) := by decide +kernel
theorem dX5_says_29 : decode cX5_says 29 = .ok (.getfield 28, 3) := by decide +kernel
theorem dX5_says_32 : decode cX5_says 32 = .ok (.iload_n 2, 1) := by decide +kernel
theorem dX5_says_33 : decode cX5_says 33 = .ok (.iadd, 1) := by decide +kernel
theorem dX5_says_34 : decode cX5_says 34 = .ok (.sipush 400, 3) := by decide +kernel
theorem dX5_says_37 : decode cX5_says 37 = .ok (.if_icmp .ge 30, 3) := by decide +kernel
theorem dX5_says_40 : decode cX5_says 40 = .ok (.aload_n 0, 1) := by decide +kernel
theorem dX5_says_41 : decode cX5_says 41 = .ok (.getfield 11, 3) := by decide +kernel
theorem dX5_says_44 : decode cX5_says 44 = .ok (.aload_n 0, 1) := by decide +kernel
theorem dX5_says_45 : decode cX5_says 45 = .ok (.getfield 28, 3) := by decide +kernel
theorem dX5_says_48 : decode cX5_says 48 = .ok (.iload_n 2, 1) := by decide +kernel
theorem dX5_says_49 : decode cX5_says 49 = .ok (.iadd, 1) := by decide +kernel
theorem dX5_says_50 : decode cX5_says 50 = .ok (.baload, 1) := by decide +kernel
theorem dX5_says_51 : decode cX5_says 51 = .ok (.aload_n 1, 1) := by decide +kernel
theorem dX5_says_52 : decode cX5_says 52 = .ok (.iload_n 2, 1) := by decide +kernel
theorem dX5_says_53 : decode cX5_says 53 = .ok (.invokevirtual 104, 3) := by decide +kernel
theorem dX5_says_56 : decode cX5_says 56 = .ok (.if_icmp .eq 5, 3) := by decide +kernel
theorem dX5_says_59 : decode cX5_says 59 = .ok (.iconst 0, 1) := by decide +kernel
theorem dX5_says_60 : decode cX5_says 60 = .ok (.ireturn, 1) := by decide +kernel
theorem dX5_says_61 : decode cX5_says 61 = .ok (.iinc 2 1, 3) := by decide +kernel
theorem dX5_says_64 : decode cX5_says 64 = .ok (.goto (-44), 3) := by decide +kernel
theorem dX5_says_67 : decode cX5_says 67 = .ok (.iconst 1, 1) := by decide +kernel
theorem dX5_says_68 : decode cX5_says 68 = .ok (.ireturn, 1) := by decide +kernel
theorem dX5_readSign_0 : decode cX5_readSign 0 = .ok (.aload_n 0, 1) := by decide +kernel
theorem dX5_readSign_1 : decode cX5_readSign 1 = .ok (.iload_n 1, 1) := by decide +kernel
theorem dX5_readSign_2 : decode cX5_readSign 2 = .ok (.invokevirtual 108, 3) := by decide +kernel
theorem dX5_readSign_5 : decode cX5_readSign 5 = .ok (.ifCond .ne 5, 3) := by decide +kernel
theorem dX5_readSign_8 : decode cX5_readSign 8 = .ok (.iconst 0, 1) := by decide +kernel
theorem dX5_readSign_9 : decode cX5_readSign 9 = .ok (.ireturn, 1) := by decide +kernel
theorem dX5_readSign_10 : decode cX5_readSign 10 = .ok (.aload_n 0, 1) := by decide +kernel
theorem dX5_readSign_11 : decode cX5_readSign 11 = .ok (.invokevirtual 70, 3) := by decide +kernel
theorem dX5_readSign_14 : decode cX5_readSign 14 = .ok (.iconst 1, 1) := by decide +kernel
theorem dX5_readSign_15 : decode cX5_readSign 15 = .ok (.ireturn, 1) := by decide +kernel
theorem dX5_readPoints_0 : decode cX5_readPoints 0 = .ok (.aload_n 0, 1) := by decide +kernel
theorem dX5_readPoints_1 : decode cX5_readPoints 1 = .ok (.iconst 1, 1) := by decide +kernel
theorem dX5_readPoints_2 : decode cX5_readPoints 2 = .ok (.invokevirtual 108, 3) := by decide +kernel
theorem dX5_readPoints_5 : decode cX5_readPoints 5 = .ok (.ifCond .ne 5, 3) := by decide +kernel
theorem dX5_readPoints_8 : decode cX5_readPoints 8 = .ok (.iconst 0, 1) := by decide +kernel
theorem dX5_readPoints_9 : decode cX5_readPoints 9 = .ok (.ireturn, 1) := by decide +kernel
theorem dX5_readPoints_10 : decode cX5_readPoints 10 = .ok (.aload_n 0, 1) := by decide +kernel
theorem dX5_readPoints_11 : decode cX5_readPoints 11 = .ok (.ldc 111, 2) := by decide +kernel
theorem dX5_readPoints_13 : decode cX5_readPoints 13 = .ok (.invokevirtual 112, 3) := by decide +kernel
theorem dX5_readPoints_16 : decode cX5_readPoints 16 = .ok (.ifCond .ne 9, 3) := by decide +kernel
theorem dX5_readPoints_19 : decode cX5_readPoints 19 = .ok (.aload_n 0, 1) := by decide +kernel
theorem dX5_readPoints_20 : decode cX5_readPoints 20 = .ok (.iconst 2, 1) := by decide +kernel
theorem dX5_readPoints_21 : decode cX5_readPoints 21 = .ok (.invokevirtual 96, 3) := by decide +kernel
theorem dX5_readPoints_24 : decode cX5_readPoints 24 = .ok (.ireturn, 1) := by decide +kernel
theorem dX5_readPoints_25 : decode cX5_readPoints 25 = .ok (.aload_n 0, 1) := by decide +kernel
theorem dX5_readPoints_26 : decode cX5_readPoints 26 = .ok (.invokevirtual 70, 3) := by decide +kernel
theorem dX5_readPoints_29 : decode cX5_readPoints 29 = .ok (.aload_n 0, 1) := by decide +kernel
theorem dX5_readPoints_30 : decode cX5_readPoints 30 = .ok (.iconst 2, 1) := by decide +kernel
theorem dX5_readPoints_31 : decode cX5_readPoints 31 = .ok (.invokevirtual 108, 3) := by decide +kernel
theorem dX5_readPoints_34 : decode cX5_readPoints 34 = .ok (.ifCond .ne 5, 3) := by decide +kernel
theorem dX5_readPoints_37 : decode cX5_readPoints 37 = .ok (.iconst 0, 1) := by decide +kernel
theorem dX5_readPoints_38 : decode cX5_readPoints 38 = .ok (.ireturn, 1) := by decide +kernel
theorem dX5_readPoints_39 : decode cX5_readPoints 39 = .ok (.aload_n 0, 1) := by decide +kernel
theorem dX5_readPoints_40 : decode cX5_readPoints 40 = .ok (.getfield 31, 3) := by decide +kernel
theorem dX5_readPoints_43 : decode cX5_readPoints 43 = .ok (.iconst 2, 1) := by decide +kernel
theorem dX5_readPoints_44 : decode cX5_readPoints 44 = .ok (.if_icmp .lt 12, 3) := by decide +kernel
theorem dX5_readPoints_47 : decode cX5_readPoints 47 = .ok (.aload_n 0, 1) := by decide +kernel
theorem dX5_readPoints_48 : decode cX5_readPoints 48 = .ok (.getfield 31, 3) := by decide +kernel
theorem dX5_readPoints_51 : decode cX5_readPoints 51 = .ok (.bipush 10, 2) := by decide +kernel
theorem dX5_readPoints_53 : decode cX5_readPoints 53 = .ok (.if_icmp .le 9, 3) := by decide +kernel
theorem dX5_readPoints_56 : decode cX5_readPoints 56 = .ok (.aload_n 0, 1) := by decide +kernel
theorem dX5_readPoints_57 : decode cX5_readPoints 57 = .ok (.iconst 3, 1) := by decide +kernel
theorem dX5_readPoints_58 : decode cX5_readPoints 58 = .ok (.invokevirtual 96, 3) := by decide +kernel
theorem dX5_readPoints_61 : decode cX5_readPoints 61 = .ok (.ireturn, 1) := by decide +kernel
theorem dX5_readPoints_62 : decode cX5_readPoints 62 = .ok (.aload_n 0, 1) := by decide +kernel
theorem dX5_readPoints_63 : decode cX5_readPoints 63 = .ok (.aload_n 0, 1) := by decide +kernel
theorem dX5_readPoints_64 : decode cX5_readPoints 64 = .ok (.getfield 31, 3) := by decide +kernel
theorem dX5_readPoints_67 : decode cX5_readPoints 67 = .ok (.putfield 34, 3) := by decide +kernel
theorem dX5_readPoints_70 : decode cX5_readPoints 70 = .ok (.aload_n 0, 1) := by decide +kernel
theorem dX5_readPoints_71 : decode cX5_readPoints 71 = .ok (.invokevirtual 70, 3) := by decide +kernel
theorem dX5_readPoints_74 : decode cX5_readPoints 74 = .ok (.iconst 1, 1) := by decide +kernel
theorem dX5_readPoints_75 : decode cX5_readPoints 75 = .ok (.ireturn, 1) := by decide +kernel
theorem dX5_readMove_0 : decode cX5_readMove 0 = .ok (.aload_n 0, 1) := by decide +kernel
theorem dX5_readMove_1 : decode cX5_readMove 1 = .ok (.iconst 1, 1) := by decide +kernel
theorem dX5_readMove_2 : decode cX5_readMove 2 = .ok (.invokevirtual 108, 3) := by decide +kernel
theorem dX5_readMove_5 : decode cX5_readMove 5 = .ok (.ifCond .ne 5, 3) := by decide +kernel
theorem dX5_readMove_8 : decode cX5_readMove 8 = .ok (.iconst 0, 1) := by decide +kernel
theorem dX5_readMove_9 : decode cX5_readMove 9 = .ok (.ireturn, 1) := by decide +kernel
theorem dX5_readMove_10 : decode cX5_readMove 10 = .ok (.aload_n 0, 1) := by decide +kernel
theorem dX5_readMove_11 : decode cX5_readMove 11 = .ok (.ldc 116, 2) := by decide +kernel
theorem dX5_readMove_13 : decode cX5_readMove 13 = .ok (.invokevirtual 112, 3) := by decide +kernel
theorem dX5_readMove_16 : decode cX5_readMove 16 = .ok (.istore_n 1, 1) := by decide +kernel
theorem dX5_readMove_17 : decode cX5_readMove 17 = .ok (.iload_n 1, 1) := by decide +kernel
theorem dX5_readMove_18 : decode cX5_readMove 18 = .ok (.ifCond .ne 18, 3) := by decide +kernel
theorem dX5_readMove_21 : decode cX5_readMove 21 = .ok (.aload_n 0, 1) := by decide +kernel
theorem dX5_readMove_22 : decode cX5_readMove 22 = .ok (.ldc 118, 2) := by decide +kernel
theorem dX5_readMove_24 : decode cX5_readMove 24 = .ok (.invokevirtual 112, 3) := by decide +kernel
theorem dX5_readMove_27 : decode cX5_readMove 27 = .ok (.ifCond .ne 9, 3) := by decide +kernel
theorem dX5_readMove_30 : decode cX5_readMove 30 = .ok (.aload_n 0, 1) := by decide +kernel
theorem dX5_readMove_31 : decode cX5_readMove 31 = .ok (.iconst 2, 1) := by decide +kernel
theorem dX5_readMove_32 : decode cX5_readMove 32 = .ok (.invokevirtual 96, 3) := by decide +kernel
theorem dX5_readMove_35 : decode cX5_readMove 35 = .ok (.ireturn, 1) := by decide +kernel
theorem dX5_readMove_36 : decode cX5_readMove 36 = .ok (.aload_n 0, 1) := by decide +kernel
theorem dX5_readMove_37 : decode cX5_readMove 37 = .ok (.getfield 37, 3) := by decide +kernel
theorem dX5_readMove_40 : decode cX5_readMove 40 = .ok (.bipush 6, 2) := by decide +kernel
theorem dX5_readMove_42 : decode cX5_readMove 42 = .ok (.if_icmp .lt 9, 3) := by decide +kernel
theorem dX5_readMove_45 : decode cX5_readMove 45 = .ok (.aload_n 0, 1) := by decide +kernel
theorem dX5_readMove_46 : decode cX5_readMove 46 = .ok (.iconst 5, 1) := by decide +kernel
theorem dX5_readMove_47 : decode cX5_readMove 47 = .ok (.invokevirtual 96, 3) := by decide +kernel
theorem dX5_readMove_50 : decode cX5_readMove 50 = .ok (.ireturn, 1) := by decide +kernel
theorem dX5_readMove_51 : decode cX5_readMove 51 = .ok (.aload_n 0, 1) := by decide +kernel
theorem dX5_readMove_52 : decode cX5_readMove 52 = .ok (.invokevirtual 70, 3) := by decide +kernel
theorem dX5_readMove_55 : decode cX5_readMove 55 = .ok (.aload_n 0, 1) := by decide +kernel
theorem dX5_readMove_56 : decode cX5_readMove 56 = .ok (.invokevirtual 120, 3) := by decide +kernel
theorem dX5_readMove_59 : decode cX5_readMove 59 = .ok (.ifCond .ne 5, 3) := by decide +kernel
theorem dX5_readMove_62 : decode cX5_readMove 62 = .ok (.iconst 0, 1) := by decide +kernel
theorem dX5_readMove_63 : decode cX5_readMove 63 = .ok (.ireturn, 1) := by decide +kernel
theorem dX5_readMove_64 : decode cX5_readMove 64 = .ok (.aload_n 0, 1) := by decide +kernel
theorem dX5_readMove_65 : decode cX5_readMove 65 = .ok (.aload_n 0, 1) := by decide +kernel
theorem dX5_readMove_66 : decode cX5_readMove 66 = .ok (.getfield 34, 3) := by decide +kernel
theorem dX5_readMove_69 : decode cX5_readMove 69 = .ok (.invokestatic 123, 3) := by decide +kernel
theorem dX5_readMove_72 : decode cX5_readMove 72 = .ok (.putfield 51, 3) := by decide +kernel
theorem dX5_readMove_75 : decode cX5_readMove 75 = .ok (.iload_n 1, 1) := by decide +kernel
theorem dX5_readMove_76 : decode cX5_readMove 76 = .ok (.ifCond .eq 13, 3) := by decide +kernel
theorem dX5_readMove_79 : decode cX5_readMove 79 = .ok (.aload_n 0, 1) := by decide +kernel
theorem dX5_readMove_80 : decode cX5_readMove 80 = .ok (.invokevirtual 129, 3) := by decide +kernel
theorem dX5_readMove_83 : decode cX5_readMove 83 = .ok (.ifCond .eq 13, 3) := by decide +kernel
theorem dX5_readMove_86 : decode cX5_readMove 86 = .ok (.goto 12, 3) := by decide +kernel
theorem dX5_readMove_89 : decode cX5_readMove 89 = .ok (.aload_n 0, 1) := by decide +kernel
theorem dX5_readMove_90 : decode cX5_readMove 90 = .ok (.invokevirtual 132, 3) := by decide +kernel
theorem dX5_readMove_93 : decode cX5_readMove 93 = .ok (.ifCond .ne 5, 3) := by decide +kernel
theorem dX5_readMove_96 : decode cX5_readMove 96 = .ok (.iconst 0, 1) := by decide +kernel
theorem dX5_readMove_97 : decode cX5_readMove 97 = .ok (.ireturn, 1) := by decide +kernel
theorem dX5_readMove_98 : decode cX5_readMove 98 = .ok (.aload_n 0, 1) := by decide +kernel
theorem dX5_readMove_99 : decode cX5_readMove 99 = .ok (.getfield 40, 3) := by decide +kernel
theorem dX5_readMove_102 : decode cX5_readMove 102 = .ok (.aload_n 0, 1) := by decide +kernel
theorem dX5_readMove_103 : decode cX5_readMove 103 = .ok (.getfield 37, 3) := by decide +kernel
theorem dX5_readMove_106 : decode cX5_readMove 106 = .ok (.aload_n 0, 1) := by decide +kernel
theorem dX5_readMove_107 : decode cX5_readMove 107 = .ok (.getfield 51, 3) := by decide +kernel
theorem dX5_readMove_110 : decode cX5_readMove 110 = .ok (.lastore, 1) := by decide +kernel
theorem dX5_readMove_111 : decode cX5_readMove 111 = .ok (.aload_n 0, 1) := by decide +kernel
theorem dX5_readMove_112 : decode cX5_readMove 112 = .ok (.dup, 1) := by decide +kernel
theorem dX5_readMove_113 : decode cX5_readMove 113 = .ok (.getfield 37, 3) := by decide +kernel
theorem dX5_readMove_116 : decode cX5_readMove 116 = .ok (.iconst 1, 1) := by decide +kernel
theorem dX5_readMove_117 : decode cX5_readMove 117 = .ok (.iadd, 1) := by decide +kernel
theorem dX5_readMove_118 : decode cX5_readMove 118 = .ok (.putfield 37, 3) := by decide +kernel
theorem dX5_readMove_121 : decode cX5_readMove 121 = .ok (.iconst 1, 1) := by decide +kernel
theorem dX5_readMove_122 : decode cX5_readMove 122 = .ok (.ireturn, 1) := by decide +kernel
theorem dX5_needName_0 : decode cX5_needName 0 = .ok (.aload_n 0, 1) := by decide +kernel
theorem dX5_needName_1 : decode cX5_needName 1 = .ok (.iconst 1, 1) := by decide +kernel
theorem dX5_needName_2 : decode cX5_needName 2 = .ok (.invokevirtual 108, 3) := by decide +kernel
theorem dX5_needName_5 : decode cX5_needName 5 = .ok (.ifCond .ne 5, 3) := by decide +kernel
theorem dX5_needName_8 : decode cX5_needName 8 = .ok (.iconst 0, 1) := by decide +kernel
theorem dX5_needName_9 : decode cX5_needName 9 = .ok (.ireturn, 1) := by decide +kernel
theorem dX5_needName_10 : decode cX5_needName 10 = .ok (.aload_n 0, 1) := by decide +kernel
theorem dX5_needName_11 : decode cX5_needName 11 = .ok (.ldc 111, 2) := by decide +kernel
theorem dX5_needName_13 : decode cX5_needName 13 = .ok (.invokevirtual 112, 3) := by decide +kernel
theorem dX5_needName_16 : decode cX5_needName 16 = .ok (.ifCond .ne 21, 3) := by decide +kernel
theorem dX5_needName_19 : decode cX5_needName 19 = .ok (.aload_n 0, 1) := by decide +kernel
theorem dX5_needName_20 : decode cX5_needName 20 = .ok (.ldc 116, 2) := by decide +kernel
theorem dX5_needName_22 : decode cX5_needName 22 = .ok (.invokevirtual 112, 3) := by decide +kernel
theorem dX5_needName_25 : decode cX5_needName 25 = .ok (.ifCond .ne 12, 3) := by decide +kernel
theorem dX5_needName_28 : decode cX5_needName 28 = .ok (.aload_n 0, 1) := by decide +kernel
theorem dX5_needName_29 : decode cX5_needName 29 = .ok (.ldc 118, 2) := by decide +kernel
theorem dX5_needName_31 : decode cX5_needName 31 = .ok (.invokevirtual 112, 3) := by decide +kernel
theorem dX5_needName_34 : decode cX5_needName 34 = .ok (.ifCond .eq 9, 3) := by decide +kernel
theorem dX5_needName_37 : decode cX5_needName 37 = .ok (.aload_n 0, 1) := by decide +kernel
theorem dX5_needName_38 : decode cX5_needName 38 = .ok (.iconst 2, 1) := by decide +kernel
theorem dX5_needName_39 : decode cX5_needName 39 = .ok (.invokevirtual 96, 3) := by decide +kernel
theorem dX5_needName_42 : decode cX5_needName 42 = .ok (.ireturn, 1) := by decide +kernel
theorem dX5_needName_43 : decode cX5_needName 43 = .ok (.iconst 1, 1) := by decide +kernel
theorem dX5_needName_44 : decode cX5_needName 44 = .ok (.ireturn, 1) := by decide +kernel
theorem dX5_readNewName_0 : decode cX5_readNewName 0 = .ok (.aload_n 0, 1) := by decide +kernel
theorem dX5_readNewName_1 : decode cX5_readNewName 1 = .ok (.invokevirtual 135, 3) := by decide +kernel
theorem dX5_readNewName_4 : decode cX5_readNewName 4 = .ok (.ifCond .ne 5, 3) := by decide +kernel
theorem dX5_readNewName_7 : decode cX5_readNewName 7 = .ok (.iconst 0, 1) := by decide +kernel
theorem dX5_readNewName_8 : decode cX5_readNewName 8 = .ok (.ireturn, 1) := by decide +kernel
theorem dX5_readNewName_9 : decode cX5_readNewName 9 = .ok (.aload_n 0, 1) := by decide +kernel
theorem dX5_readNewName_10 : decode cX5_readNewName 10 = .ok (.invokevirtual 138, 3) := by decide +kernel
theorem dX5_readNewName_13 : decode cX5_readNewName 13 = .ok (.ifCond .lt 9, 3) := by decide +kernel
theorem dX5_readNewName_16 : decode cX5_readNewName 16 = .ok (.aload_n 0, 1) := by decide +kernel
theorem dX5_readNewName_17 : decode cX5_readNewName 17 = .ok (.iconst 4, 1) := by decide +kernel
theorem dX5_readNewName_18 : decode cX5_readNewName 18 = .ok (.invokevirtual 96, 3) := by decide +kernel
theorem dX5_readNewName_21 : decode cX5_readNewName 21 = .ok (.ireturn, 1) := by decide +kernel
theorem dX5_readNewName_22 : decode cX5_readNewName 22 = .ok (.aload_n 0, 1) := by decide +kernel
theorem dX5_readNewName_23 : decode cX5_readNewName 23 = .ok (.getfield 44, 3) := by decide +kernel
theorem dX5_readNewName_26 : decode cX5_readNewName 26 = .ok (.aload_n 0, 1) := by decide +kernel
theorem dX5_readNewName_27 : decode cX5_readNewName 27 = .ok (.getfield 37, 3) := by decide +kernel
theorem dX5_readNewName_30 : decode cX5_readNewName 30 = .ok (.aload_n 0, 1) := by decide +kernel
theorem dX5_readNewName_31 : decode cX5_readNewName 31 = .ok (.getfield 28, 3) := by decide +kernel
theorem dX5_readNewName_34 : decode cX5_readNewName 34 = .ok (.iastore, 1) := by decide +kernel
theorem dX5_readNewName_35 : decode cX5_readNewName 35 = .ok (.aload_n 0, 1) := by decide +kernel
theorem dX5_readNewName_36 : decode cX5_readNewName 36 = .ok (.getfield 48, 3) := by decide +kernel
theorem dX5_readNewName_39 : decode cX5_readNewName 39 = .ok (.aload_n 0, 1) := by decide +kernel
theorem dX5_readNewName_40 : decode cX5_readNewName 40 = .ok (.getfield 37, 3) := by decide +kernel
theorem dX5_readNewName_43 : decode cX5_readNewName 43 = .ok (.aload_n 0, 1) := by decide +kernel
theorem dX5_readNewName_44 : decode cX5_readNewName 44 = .ok (.getfield 22, 3) := by decide +kernel
theorem dX5_readNewName_47 : decode cX5_readNewName 47 = .ok (.aload_n 0, 1) := by decide +kernel
theorem dX5_readNewName_48 : decode cX5_readNewName 48 = .ok (.getfield 28, 3) := by decide +kernel
theorem dX5_readNewName_51 : decode cX5_readNewName 51 = .ok (.isub, 1) := by decide +kernel
theorem dX5_readNewName_52 : decode cX5_readNewName 52 = .ok (.iastore, 1) := by decide +kernel
theorem dX5_readNewName_53 : decode cX5_readNewName 53 = .ok (.aload_n 0, 1) := by decide +kernel
theorem dX5_readNewName_54 : decode cX5_readNewName 54 = .ok (.invokevirtual 70, 3) := by decide +kernel
theorem dX5_readNewName_57 : decode cX5_readNewName 57 = .ok (.iconst 1, 1) := by decide +kernel
theorem dX5_readNewName_58 : decode cX5_readNewName 58 = .ok (.ireturn, 1) := by decide +kernel
theorem dX5_named_0 : decode cX5_named 0 = .ok (.iconst 0, 1) := by decide +kernel
theorem dX5_named_1 : decode cX5_named 1 = .ok (.istore_n 1, 1) := by decide +kernel
theorem dX5_named_2 : decode cX5_named 2 = .ok (.iload_n 1, 1) := by decide +kernel
theorem dX5_named_3 : decode cX5_named 3 = .ok (.aload_n 0, 1) := by decide +kernel
theorem dX5_named_4 : decode cX5_named 4 = .ok (.getfield 37, 3) := by decide +kernel
theorem dX5_named_7 : decode cX5_named 7 = .ok (.if_icmp .ge 42, 3) := by decide +kernel
theorem dX5_named_10 : decode cX5_named 10 = .ok (.aload_n 0, 1) := by decide +kernel
theorem dX5_named_11 : decode cX5_named 11 = .ok (.getfield 48, 3) := by decide +kernel
theorem dX5_named_14 : decode cX5_named 14 = .ok (.iload_n 1, 1) := by decide +kernel
theorem dX5_named_15 : decode cX5_named 15 = .ok (.iaload, 1) := by decide +kernel
theorem dX5_named_16 : decode cX5_named 16 = .ok (.aload_n 0, 1) := by decide +kernel
theorem dX5_named_17 : decode cX5_named 17 = .ok (.getfield 22, 3) := by decide +kernel
theorem dX5_named_20 : decode cX5_named 20 = .ok (.aload_n 0, 1) := by decide +kernel
theorem dX5_named_21 : decode cX5_named 21 = .ok (.getfield 28, 3) := by decide +kernel
theorem dX5_named_24 : decode cX5_named 24 = .ok (.isub, 1) := by decide +kernel
theorem dX5_named_25 : decode cX5_named 25 = .ok (.if_icmp .ne 18, 3) := by decide +kernel
theorem dX5_named_28 : decode cX5_named 28 = .ok (.aload_n 0, 1) := by decide +kernel
theorem dX5_named_29 : decode cX5_named 29 = .ok (.aload_n 0, 1) := by decide +kernel
theorem dX5_named_30 : decode cX5_named 30 = .ok (.getfield 44, 3) := by decide +kernel
theorem dX5_named_33 : decode cX5_named 33 = .ok (.iload_n 1, 1) := by decide +kernel
theorem dX5_named_34 : decode cX5_named 34 = .ok (.iaload, 1) := by decide +kernel
theorem dX5_named_35 : decode cX5_named 35 = .ok (.invokevirtual 141, 3) := by decide +kernel
theorem dX5_named_38 : decode cX5_named 38 = .ok (.ifCond .eq 5, 3) := by decide +kernel
theorem dX5_named_41 : decode cX5_named 41 = .ok (.iload_n 1, 1) := by decide +kernel
theorem dX5_named_42 : decode cX5_named 42 = .ok (.ireturn, 1) := by decide +kernel
theorem dX5_named_43 : decode cX5_named 43 = .ok (.iinc 1 1, 3) := by decide +kernel
theorem dX5_named_46 : decode cX5_named 46 = .ok (.goto (-44), 3) := by decide +kernel
theorem dX5_named_49 : decode cX5_named 49 = .ok (.iconst (-1), 1) := by decide +kernel
theorem dX5_named_50 : decode cX5_named 50 = .ok (.ireturn, 1) := by decide +kernel
theorem dX5_isSameAt_0 : decode cX5_isSameAt 0 = .ok (.iconst 0, 1) := by decide +kernel
theorem dX5_isSameAt_1 : decode cX5_isSameAt 1 = .ok (.istore_n 2, 1) := by decide +kernel
theorem dX5_isSameAt_2 : decode cX5_isSameAt 2 = .ok (.iload_n 2, 1) := by decide +kernel
theorem dX5_isSameAt_3 : decode cX5_isSameAt 3 = .ok (.aload_n 0, 1) := by decide +kernel
theorem dX5_isSameAt_4 : decode cX5_isSameAt 4 = .ok (.getfield 22, 3) := by decide +kernel
theorem dX5_isSameAt_7 : decode cX5_isSameAt 7 = .ok (.aload_n 0, 1) := by decide +kernel
theorem dX5_isSameAt_8 : decode cX5_isSameAt 8 = .ok (.getfield 28, 3) := by decide +kernel
theorem dX5_isSameAt_11 : decode cX5_isSameAt 11 = .ok (.isub, 1) := by decide +kernel
theorem dX5_isSameAt_12 : decode cX5_isSameAt 12 = .ok (.if_icmp .ge 33, 3) := by decide +kernel
theorem dX5_isSameAt_15 : decode cX5_isSameAt 15 = .ok (.aload_n 0, 1) := by decide +kernel
theorem dX5_isSameAt_16 : decode cX5_isSameAt 16 = .ok (.getfield 11, 3) := by decide +kernel
theorem dX5_isSameAt_19 : decode cX5_isSameAt 19 = .ok (.iload_n 1, 1) := by decide +kernel
theorem dX5_isSameAt_20 : decode cX5_isSameAt 20 = .ok (.iload_n 2, 1) := by decide +kernel
theorem dX5_isSameAt_21 : decode cX5_isSameAt 21 = .ok (.iadd, 1) := by decide +kernel
theorem dX5_isSameAt_22 : decode cX5_isSameAt 22 = .ok (.baload, 1) := by decide +kernel
theorem dX5_isSameAt_23 : decode cX5_isSameAt 23 = .ok (.aload_n 0, 1) := by decide +kernel
theorem dX5_isSameAt_24 : decode cX5_isSameAt 24 = .ok (.getfield 11, 3) := by decide +kernel
theorem dX5_isSameAt_27 : decode cX5_isSameAt 27 = .ok (.aload_n 0, 1) := by decide +kernel
theorem dX5_isSameAt_28 : decode cX5_isSameAt 28 = .ok (.getfield 28, 3) := by decide +kernel
theorem dX5_isSameAt_31 : decode cX5_isSameAt 31 = .ok (.iload_n 2, 1) := by decide +kernel
theorem dX5_isSameAt_32 : decode cX5_isSameAt 32 = .ok (.iadd, 1) := by decide +kernel
theorem dX5_isSameAt_33 : decode cX5_isSameAt 33 = .ok (.baload, 1) := by decide +kernel
theorem dX5_isSameAt_34 : decode cX5_isSameAt 34 = .ok (.if_icmp .eq 5, 3) := by decide +kernel
theorem dX5_isSameAt_37 : decode cX5_isSameAt 37 = .ok (.iconst 0, 1) := by decide +kernel
theorem dX5_isSameAt_38 : decode cX5_isSameAt 38 = .ok (.ireturn, 1) := by decide +kernel
theorem dX5_isSameAt_39 : decode cX5_isSameAt 39 = .ok (.iinc 2 1, 3) := by decide +kernel
theorem dX5_isSameAt_42 : decode cX5_isSameAt 42 = .ok (.goto (-40), 3) := by decide +kernel
theorem dX5_isSameAt_45 : decode cX5_isSameAt 45 = .ok (.iconst 1, 1) := by decide +kernel
theorem dX5_isSameAt_46 : decode cX5_isSameAt 46 = .ok (.ireturn, 1) := by decide +kernel
theorem dX5_readCycles_0 : decode cX5_readCycles 0 = .ok (.aload_n 0, 1) := by decide +kernel
theorem dX5_readCycles_1 : decode cX5_readCycles 1 = .ok (.iconst 0, 1) := by decide +kernel
theorem dX5_readCycles_2 : decode cX5_readCycles 2 = .ok (.putfield 55, 3) := by decide +kernel
theorem dX5_readCycles_5 : decode cX5_readCycles 5 = .ok (.aload_n 0, 1) := by decide +kernel
theorem dX5_readCycles_6 : decode cX5_readCycles 6 = .ok (.bipush 40, 2) := by decide +kernel
theorem dX5_readCycles_8 : decode cX5_readCycles 8 = .ok (.invokevirtual 108, 3) := by decide +kernel
theorem dX5_readCycles_11 : decode cX5_readCycles 11 = .ok (.ifCond .ne 5, 3) := by decide +kernel
theorem dX5_readCycles_14 : decode cX5_readCycles 14 = .ok (.iconst 0, 1) := by decide +kernel
theorem dX5_readCycles_15 : decode cX5_readCycles 15 = .ok (.ireturn, 1) := by decide +kernel
theorem dX5_readCycles_16 : decode cX5_readCycles 16 = .ok (.iconst 0, 1) := by decide +kernel
theorem dX5_readCycles_17 : decode cX5_readCycles 17 = .ok (.istore_n 1, 1) := by decide +kernel
theorem dX5_readCycles_18 : decode cX5_readCycles 18 = .ok (.iload_n 1, 1) := by decide +kernel
theorem dX5_readCycles_19 : decode cX5_readCycles 19 = .ok (.sipush 400, 3) := by decide +kernel
theorem dX5_readCycles_22 : decode cX5_readCycles 22 = .ok (.if_icmp .gt 40, 3) := by decide +kernel
theorem dX5_readCycles_25 : decode cX5_readCycles 25 = .ok (.aload_n 0, 1) := by decide +kernel
theorem dX5_readCycles_26 : decode cX5_readCycles 26 = .ok (.getfield 25, 3) := by decide +kernel
theorem dX5_readCycles_29 : decode cX5_readCycles 29 = .ok (.bipush 40, 2) := by decide +kernel
theorem dX5_readCycles_31 : decode cX5_readCycles 31 = .ok (.if_icmp .ne 31, 3) := by decide +kernel
theorem dX5_readCycles_34 : decode cX5_readCycles 34 = .ok (.aload_n 0, 1) := by decide +kernel
theorem dX5_readCycles_35 : decode cX5_readCycles 35 = .ok (.invokevirtual 70, 3) := by decide +kernel
theorem dX5_readCycles_38 : decode cX5_readCycles 38 = .ok (.aload_n 0, 1) := by decide +kernel
theorem dX5_readCycles_39 : decode cX5_readCycles 39 = .ok (.invokevirtual 144, 3) := by decide +kernel
theorem dX5_readCycles_42 : decode cX5_readCycles 42 = .ok (.ifCond .eq 12, 3) := by decide +kernel
theorem dX5_readCycles_45 : decode cX5_readCycles 45 = .ok (.aload_n 0, 1) := by decide +kernel
theorem dX5_readCycles_46 : decode cX5_readCycles 46 = .ok (.bipush 41, 2) := by decide +kernel
theorem dX5_readCycles_48 : decode cX5_readCycles 48 = .ok (.invokevirtual 80, 3) := by decide +kernel
theorem dX5_readCycles_51 : decode cX5_readCycles 51 = .ok (.ifCond .ne 5, 3) := by decide +kernel
theorem dX5_readCycles_54 : decode cX5_readCycles 54 = .ok (.iconst 0, 1) := by decide +kernel
theorem dX5_readCycles_55 : decode cX5_readCycles 55 = .ok (.ireturn, 1) := by decide +kernel
theorem dX5_readCycles_56 : decode cX5_readCycles 56 = .ok (.iinc 1 1, 3) := by decide +kernel
theorem dX5_readCycles_59 : decode cX5_readCycles 59 = .ok (.goto (-41), 3) := by decide +kernel
theorem dX5_readCycles_62 : decode cX5_readCycles 62 = .ok (.iconst 1, 1) := by decide +kernel
theorem dX5_readCycles_63 : decode cX5_readCycles 63 = .ok (.ireturn, 1) := by decide +kernel
theorem dX5_readCycle_0 : decode cX5_readCycle 0 = .ok (.aload_n 0, 1) := by decide +kernel
theorem dX5_readCycle_1 : decode cX5_readCycle 1 = .ok (.iconst 2, 1) := by decide +kernel
theorem dX5_readCycle_2 : decode cX5_readCycle 2 = .ok (.invokevirtual 108, 3) := by decide +kernel
theorem dX5_readCycle_5 : decode cX5_readCycle 5 = .ok (.ifCond .ne 5, 3) := by decide +kernel
theorem dX5_readCycle_8 : decode cX5_readCycle 8 = .ok (.iconst 0, 1) := by decide +kernel
theorem dX5_readCycle_9 : decode cX5_readCycle 9 = .ok (.ireturn, 1) := by decide +kernel
theorem dX5_readCycle_10 : decode cX5_readCycle 10 = .ok (.aload_n 0, 1) := by decide +kernel
theorem dX5_readCycle_11 : decode cX5_readCycle 11 = .ok (.getfield 31, 3) := by decide +kernel
theorem dX5_readCycle_14 : decode cX5_readCycle 14 = .ok (.istore_n 1, 1) := by decide +kernel
theorem dX5_readCycle_15 : decode cX5_readCycle 15 = .ok (.iconst (-1), 1) := by decide +kernel
theorem dX5_readCycle_16 : decode cX5_readCycle 16 = .ok (.istore_n 2, 1) := by decide +kernel
theorem dX5_readCycle_17 : decode cX5_readCycle 17 = .ok (.iconst 0, 1) := by decide +kernel
theorem dX5_readCycle_18 : decode cX5_readCycle 18 = .ok (.istore_n 3, 1) := by decide +kernel
theorem dX5_readCycle_19 : decode cX5_readCycle 19 = .ok (.iload_n 3, 1) := by decide +kernel
theorem dX5_readCycle_20 : decode cX5_readCycle 20 = .ok (.sipush 400, 3) := by decide +kernel
theorem dX5_readCycle_23 : decode cX5_readCycle 23 = .ok (.if_icmp .gt 99, 3) := by decide +kernel
theorem dX5_readCycle_26 : decode cX5_readCycle 26 = .ok (.aload_n 0, 1) := by decide +kernel
theorem dX5_readCycle_27 : decode cX5_readCycle 27 = .ok (.getfield 25, 3) := by decide +kernel
theorem dX5_readCycle_30 : decode cX5_readCycle 30 = .ok (.iconst 2, 1) := by decide +kernel
theorem dX5_readCycle_31 : decode cX5_readCycle 31 = .ok (.if_icmp .ne 91, 3) := by decide +kernel
theorem dX5_readCycle_34 : decode cX5_readCycle 34 = .ok (.aload_n 0, 1) := by decide +kernel
theorem dX5_readCycle_35 : decode cX5_readCycle 35 = .ok (.getfield 31, 3) := by decide +kernel
theorem dX5_readCycle_38 : decode cX5_readCycle 38 = .ok (.aload_n 0, 1) := by decide +kernel
theorem dX5_readCycle_39 : decode cX5_readCycle 39 = .ok (.getfield 34, 3) := by decide +kernel
theorem dX5_readCycle_42 : decode cX5_readCycle 42 = .ok (.if_icmp .lt 9, 3) := by decide +kernel
theorem dX5_readCycle_45 : decode cX5_readCycle 45 = .ok (.aload_n 0, 1) := by decide +kernel
theorem dX5_readCycle_46 : decode cX5_readCycle 46 = .ok (.iconst 3, 1) := by decide +kernel
theorem dX5_readCycle_47 : decode cX5_readCycle 47 = .ok (.invokevirtual 96, 3) := by decide +kernel
theorem dX5_readCycle_50 : decode cX5_readCycle 50 = .ok (.ireturn, 1) := by decide +kernel
theorem dX5_readCycle_51 : decode cX5_readCycle 51 = .ok (.aload_n 0, 1) := by decide +kernel
theorem dX5_readCycle_52 : decode cX5_readCycle 52 = .ok (.getfield 55, 3) := by decide +kernel
theorem dX5_readCycle_55 : decode cX5_readCycle 55 = .ok (.aload_n 0, 1) := by decide +kernel
theorem dX5_readCycle_56 : decode cX5_readCycle 56 = .ok (.getfield 31, 3) := by decide +kernel
theorem dX5_readCycle_59 : decode cX5_readCycle 59 = .ok (.ishr, 1) := by decide +kernel
theorem dX5_readCycle_60 : decode cX5_readCycle 60 = .ok (.iconst 1, 1) := by decide +kernel
theorem dX5_readCycle_61 : decode cX5_readCycle 61 = .ok (.iand, 1) := by decide +kernel
theorem dX5_readCycle_62 : decode cX5_readCycle 62 = .ok (.ifCond .eq 9, 3) := by decide +kernel
theorem dX5_readCycle_65 : decode cX5_readCycle 65 = .ok (.aload_n 0, 1) := by decide +kernel
theorem dX5_readCycle_66 : decode cX5_readCycle 66 = .ok (.iconst 4, 1) := by decide +kernel
theorem dX5_readCycle_67 : decode cX5_readCycle 67 = .ok (.invokevirtual 96, 3) := by decide +kernel
theorem dX5_readCycle_70 : decode cX5_readCycle 70 = .ok (.ireturn, 1) := by decide +kernel
theorem dX5_readCycle_71 : decode cX5_readCycle 71 = .ok (.aload_n 0, 1) := by decide +kernel
theorem dX5_readCycle_72 : decode cX5_readCycle 72 = .ok (.dup, 1) := by decide +kernel
theorem dX5_readCycle_73 : decode cX5_readCycle 73 = .ok (.getfield 55, 3) := by decide +kernel
theorem dX5_readCycle_76 : decode cX5_readCycle 76 = .ok (.iconst 1, 1) := by decide +kernel
theorem dX5_readCycle_77 : decode cX5_readCycle 77 = .ok (.aload_n 0, 1) := by decide +kernel
theorem dX5_readCycle_78 : decode cX5_readCycle 78 = .ok (.getfield 31, 3) := by decide +kernel
theorem dX5_readCycle_81 : decode cX5_readCycle 81 = .ok (.ishl, 1) := by decide +kernel
theorem dX5_readCycle_82 : decode cX5_readCycle 82 = .ok (.ior, 1) := by decide +kernel
theorem dX5_readCycle_83 : decode cX5_readCycle 83 = .ok (.putfield 55, 3) := by decide +kernel
theorem dX5_readCycle_86 : decode cX5_readCycle 86 = .ok (.iload_n 2, 1) := by decide +kernel
theorem dX5_readCycle_87 : decode cX5_readCycle 87 = .ok (.iconst (-1), 1) := by decide +kernel
theorem dX5_readCycle_88 : decode cX5_readCycle 88 = .ok (.if_icmp .eq 19, 3) := by decide +kernel
theorem dX5_readCycle_91 : decode cX5_readCycle 91 = .ok (.aload_n 0, 1) := by decide +kernel
theorem dX5_readCycle_92 : decode cX5_readCycle 92 = .ok (.aload_n 0, 1) := by decide +kernel
theorem dX5_readCycle_93 : decode cX5_readCycle 93 = .ok (.getfield 51, 3) := by decide +kernel
theorem dX5_readCycle_96 : decode cX5_readCycle 96 = .ok (.iload_n 2, 1) := by decide +kernel
theorem dX5_readCycle_97 : decode cX5_readCycle 97 = .ok (.aload_n 0, 1) := by decide +kernel
theorem dX5_readCycle_98 : decode cX5_readCycle 98 = .ok (.getfield 31, 3) := by decide +kernel
theorem dX5_readCycle_101 : decode cX5_readCycle 101 = .ok (.invokestatic 147, 3) := by decide +kernel
theorem dX5_readCycle_104 : decode cX5_readCycle 104 = .ok (.putfield 51, 3) := by decide +kernel
theorem dX5_readCycle_107 : decode cX5_readCycle 107 = .ok (.aload_n 0, 1) := by decide +kernel
theorem dX5_readCycle_108 : decode cX5_readCycle 108 = .ok (.getfield 31, 3) := by decide +kernel
theorem dX5_readCycle_111 : decode cX5_readCycle 111 = .ok (.istore_n 2, 1) := by decide +kernel
theorem dX5_readCycle_112 : decode cX5_readCycle 112 = .ok (.aload_n 0, 1) := by decide +kernel
theorem dX5_readCycle_113 : decode cX5_readCycle 113 = .ok (.invokevirtual 70, 3) := by decide +kernel
theorem dX5_readCycle_116 : decode cX5_readCycle 116 = .ok (.iinc 3 1, 3) := by decide +kernel
theorem dX5_readCycle_119 : decode cX5_readCycle 119 = .ok (.goto (-100), 3) := by decide +kernel
theorem dX5_readCycle_122 : decode cX5_readCycle 122 = .ok (.aload_n 0, 1) := by decide +kernel
theorem dX5_readCycle_123 : decode cX5_readCycle 123 = .ok (.aload_n 0, 1) := by decide +kernel
theorem dX5_readCycle_124 : decode cX5_readCycle 124 = .ok (.getfield 51, 3) := by decide +kernel
theorem dX5_readCycle_127 : decode cX5_readCycle 127 = .ok (.iload_n 2, 1) := by decide +kernel
theorem dX5_readCycle_128 : decode cX5_readCycle 128 = .ok (.iload_n 1, 1) := by decide +kernel
theorem dX5_readCycle_129 : decode cX5_readCycle 129 = .ok (.invokestatic 147, 3) := by decide +kernel
theorem dX5_readCycle_132 : decode cX5_readCycle 132 = .ok (.putfield 51, 3) := by decide +kernel
theorem dX5_readCycle_135 : decode cX5_readCycle 135 = .ok (.iconst 1, 1) := by decide +kernel
theorem dX5_readCycle_136 : decode cX5_readCycle 136 = .ok (.ireturn, 1) := by decide +kernel
theorem dX5_readItems_0 : decode cX5_readItems 0 = .ok (.aload_n 0, 1) := by decide +kernel
theorem dX5_readItems_1 : decode cX5_readItems 1 = .ok (.iconst 1, 1) := by decide +kernel
theorem dX5_readItems_2 : decode cX5_readItems 2 = .ok (.invokevirtual 108, 3) := by decide +kernel
theorem dX5_readItems_5 : decode cX5_readItems 5 = .ok (.ifCond .ne 5, 3) := by decide +kernel
theorem dX5_readItems_8 : decode cX5_readItems 8 = .ok (.iconst 0, 1) := by decide +kernel
theorem dX5_readItems_9 : decode cX5_readItems 9 = .ok (.ireturn, 1) := by decide +kernel
theorem dX5_readItems_10 : decode cX5_readItems 10 = .ok (.iconst 0, 1) := by decide +kernel
theorem dX5_readItems_11 : decode cX5_readItems 11 = .ok (.istore_n 1, 1) := by decide +kernel
theorem dX5_readItems_12 : decode cX5_readItems 12 = .ok (.iload_n 1, 1) := by decide +kernel
theorem dX5_readItems_13 : decode cX5_readItems 13 = .ok (.sipush 400, 3) := by decide +kernel
theorem dX5_readItems_16 : decode cX5_readItems 16 = .ok (.if_icmp .gt 26, 3) := by decide +kernel
theorem dX5_readItems_19 : decode cX5_readItems 19 = .ok (.aload_n 0, 1) := by decide +kernel
theorem dX5_readItems_20 : decode cX5_readItems 20 = .ok (.getfield 25, 3) := by decide +kernel
theorem dX5_readItems_23 : decode cX5_readItems 23 = .ok (.iconst 1, 1) := by decide +kernel
theorem dX5_readItems_24 : decode cX5_readItems 24 = .ok (.if_icmp .ne 18, 3) := by decide +kernel
theorem dX5_readItems_27 : decode cX5_readItems 27 = .ok (.aload_n 0, 1) := by decide +kernel
theorem dX5_readItems_28 : decode cX5_readItems 28 = .ok (.invokevirtual 151, 3) := by decide +kernel
theorem dX5_readItems_31 : decode cX5_readItems 31 = .ok (.ifCond .ne 5, 3) := by decide +kernel
theorem dX5_readItems_34 : decode cX5_readItems 34 = .ok (.iconst 0, 1) := by decide +kernel
theorem dX5_readItems_35 : decode cX5_readItems 35 = .ok (.ireturn, 1) := by decide +kernel
theorem dX5_readItems_36 : decode cX5_readItems 36 = .ok (.iinc 1 1, 3) := by decide +kernel
theorem dX5_readItems_39 : decode cX5_readItems 39 = .ok (.goto (-27), 3) := by decide +kernel
theorem dX5_readItems_42 : decode cX5_readItems 42 = .ok (.iconst 1, 1) := by decide +kernel
theorem dX5_readItems_43 : decode cX5_readItems 43 = .ok (.ireturn, 1) := by decide +kernel
theorem dX5_readItem_0 : decode cX5_readItem 0 = .ok (.aload_n 0, 1) := by decide +kernel
theorem dX5_readItem_1 : decode cX5_readItem 1 = .ok (.invokevirtual 135, 3) := by decide +kernel
theorem dX5_readItem_4 : decode cX5_readItem 4 = .ok (.ifCond .ne 5, 3) := by decide +kernel
theorem dX5_readItem_7 : decode cX5_readItem 7 = .ok (.iconst 0, 1) := by decide +kernel
theorem dX5_readItem_8 : decode cX5_readItem 8 = .ok (.ireturn, 1) := by decide +kernel
theorem dX5_readItem_9 : decode cX5_readItem 9 = .ok (.aload_n 0, 1) := by decide +kernel
theorem dX5_readItem_10 : decode cX5_readItem 10 = .ok (.invokevirtual 138, 3) := by decide +kernel
theorem dX5_readItem_13 : decode cX5_readItem 13 = .ok (.istore_n 1, 1) := by decide +kernel
theorem dX5_readItem_14 : decode cX5_readItem 14 = .ok (.iload_n 1, 1) := by decide +kernel
theorem dX5_readItem_15 : decode cX5_readItem 15 = .ok (.ifCond .ge 9, 3) := by decide +kernel
theorem dX5_readItem_18 : decode cX5_readItem 18 = .ok (.aload_n 0, 1) := by decide +kernel
theorem dX5_readItem_19 : decode cX5_readItem 19 = .ok (.iconst 4, 1) := by decide +kernel
theorem dX5_readItem_20 : decode cX5_readItem 20 = .ok (.invokevirtual 96, 3) := by decide +kernel
theorem dX5_readItem_23 : decode cX5_readItem 23 = .ok (.ireturn, 1) := by decide +kernel
theorem dX5_readItem_24 : decode cX5_readItem 24 = .ok (.aload_n 0, 1) := by decide +kernel
theorem dX5_readItem_25 : decode cX5_readItem 25 = .ok (.getfield 40, 3) := by decide +kernel
theorem dX5_readItem_28 : decode cX5_readItem 28 = .ok (.iload_n 1, 1) := by decide +kernel
theorem dX5_readItem_29 : decode cX5_readItem 29 = .ok (.laload, 1) := by decide +kernel
theorem dX5_readItem_30 : decode cX5_readItem 30 = .ok (.lstore_n 2, 1) := by decide +kernel
theorem dX5_readItem_31 : decode cX5_readItem 31 = .ok (.aload_n 0, 1) := by decide +kernel
theorem dX5_readItem_32 : decode cX5_readItem 32 = .ok (.invokevirtual 70, 3) := by decide +kernel
theorem dX5_readItem_35 : decode cX5_readItem 35 = .ok (.aload_n 0, 1) := by decide +kernel
theorem dX5_readItem_36 : decode cX5_readItem 36 = .ok (.getfield 25, 3) := by decide +kernel
theorem dX5_readItem_39 : decode cX5_readItem 39 = .ok (.bipush 39, 2) := by decide +kernel
theorem dX5_readItem_41 : decode cX5_readItem 41 = .ok (.if_icmp .ne 16, 3) := by decide +kernel
theorem dX5_readItem_44 : decode cX5_readItem 44 = .ok (.lload_n 2, 1) := by decide +kernel
theorem dX5_readItem_45 : decode cX5_readItem 45 = .ok (.aload_n 0, 1) := by decide +kernel
theorem dX5_readItem_46 : decode cX5_readItem 46 = .ok (.getfield 34, 3) := by decide +kernel
theorem dX5_readItem_49 : decode cX5_readItem 49 = .ok (.invokestatic 154, 3) := by decide +kernel
theorem dX5_readItem_52 : decode cX5_readItem 52 = .ok (.lstore_n 2, 1) := by decide +kernel
theorem dX5_readItem_53 : decode cX5_readItem 53 = .ok (.aload_n 0, 1) := by decide +kernel
theorem dX5_readItem_54 : decode cX5_readItem 54 = .ok (.invokevirtual 70, 3) := by decide +kernel
theorem dX5_readItem_57 : decode cX5_readItem 57 = .ok (.aload_n 0, 1) := by decide +kernel
theorem dX5_readItem_58 : decode cX5_readItem 58 = .ok (.aload_n 0, 1) := by decide +kernel
theorem dX5_readItem_59 : decode cX5_readItem 59 = .ok (.getfield 51, 3) := by decide +kernel
theorem dX5_readItem_62 : decode cX5_readItem 62 = .ok (.lload_n 2, 1) := by decide +kernel
theorem dX5_readItem_63 : decode cX5_readItem 63 = .ok (.aload_n 0, 1) := by decide +kernel
theorem dX5_readItem_64 : decode cX5_readItem 64 = .ok (.getfield 34, 3) := by decide +kernel
theorem dX5_readItem_67 : decode cX5_readItem 67 = .ok (.invokestatic 158, 3) := by decide +kernel
theorem dX5_readItem_70 : decode cX5_readItem 70 = .ok (.putfield 51, 3) := by decide +kernel
theorem dX5_readItem_73 : decode cX5_readItem 73 = .ok (.iconst 1, 1) := by decide +kernel
theorem dX5_readItem_74 : decode cX5_readItem 74 = .ok (.ireturn, 1) := by decide +kernel
theorem dX6_image_0 : decode cX6_image 0 = .ok (.lload_n 0, 1) := by decide +kernel
theorem dX6_image_1 : decode cX6_image 1 = .ok (.bipush 36, 2) := by decide +kernel
theorem dX6_image_3 : decode cX6_image 3 = .ok (.iconst 4, 1) := by decide +kernel
theorem dX6_image_4 : decode cX6_image 4 = .ok (.iload_n 2, 1) := by decide +kernel
theorem dX6_image_5 : decode cX6_image 5 = .ok (.imul, 1) := by decide +kernel
theorem dX6_image_6 : decode cX6_image 6 = .ok (.isub, 1) := by decide +kernel
theorem dX6_image_7 : decode cX6_image 7 = .ok (.lushr, 1) := by decide +kernel
theorem dX6_image_8 : decode cX6_image 8 = .ok (.l2i, 1) := by decide +kernel
theorem dX6_image_9 : decode cX6_image 9 = .ok (.bipush 15, 2) := by decide +kernel
theorem dX6_image_11 : decode cX6_image 11 = .ok (.iand, 1) := by decide +kernel
theorem dX6_image_12 : decode cX6_image 12 = .ok (.ireturn, 1) := by decide +kernel
theorem dX6_with_0 : decode cX6_with 0 = .ok (.bipush 36, 2) := by decide +kernel
theorem dX6_with_2 : decode cX6_with 2 = .ok (.iconst 4, 1) := by decide +kernel
theorem dX6_with_3 : decode cX6_with 3 = .ok (.iload_n 2, 1) := by decide +kernel
theorem dX6_with_4 : decode cX6_with 4 = .ok (.imul, 1) := by decide +kernel
theorem dX6_with_5 : decode cX6_with 5 = .ok (.isub, 1) := by decide +kernel
theorem dX6_with_6 : decode cX6_with 6 = .ok (.istore 4, 2) := by decide +kernel
theorem dX6_with_8 : decode cX6_with 8 = .ok (.lload_n 0, 1) := by decide +kernel
theorem dX6_with_9 : decode cX6_with 9 = .ok (.ldc2_w 11, 3) := by decide +kernel
theorem dX6_with_12 : decode cX6_with 12 = .ok (.iload 4, 2) := by decide +kernel
theorem dX6_with_14 : decode cX6_with 14 = .ok (.lshl, 1) := by decide +kernel
theorem dX6_with_15 : decode cX6_with 15 = .ok (.ldc2_w 13, 3) := by decide +kernel
theorem dX6_with_18 : decode cX6_with 18 = .ok (.lxor, 1) := by decide +kernel
theorem dX6_with_19 : decode cX6_with 19 = .ok (.land, 1) := by decide +kernel
theorem dX6_with_20 : decode cX6_with 20 = .ok (.iload_n 3, 1) := by decide +kernel
theorem dX6_with_21 : decode cX6_with 21 = .ok (.i2l, 1) := by decide +kernel
theorem dX6_with_22 : decode cX6_with 22 = .ok (.iload 4, 2) := by decide +kernel
theorem dX6_with_24 : decode cX6_with 24 = .ok (.lshl, 1) := by decide +kernel
theorem dX6_with_25 : decode cX6_with 25 = .ok (.lor, 1) := by decide +kernel
theorem dX6_with_26 : decode cX6_with 26 = .ok (.lreturn, 1) := by decide +kernel
theorem dX6_identity_0 : decode cX6_identity 0 = .ok (.lconst 0, 1) := by decide +kernel
theorem dX6_identity_1 : decode cX6_identity 1 = .ok (.lstore_n 1, 1) := by decide +kernel
theorem dX6_identity_2 : decode cX6_identity 2 = .ok (.iconst 0, 1) := by decide +kernel
theorem dX6_identity_3 : decode cX6_identity 3 = .ok (.istore_n 3, 1) := by decide +kernel
theorem dX6_identity_4 : decode cX6_identity 4 = .ok (.iload_n 3, 1) := by decide +kernel
theorem dX6_identity_5 : decode cX6_identity 5 = .ok (.iload_n 0, 1) := by decide +kernel
theorem dX6_identity_6 : decode cX6_identity 6 = .ok (.if_icmp .ge 21, 3) := by decide +kernel
theorem dX6_identity_9 : decode cX6_identity 9 = .ok (.lload_n 1, 1) := by decide +kernel
theorem dX6_identity_10 : decode cX6_identity 10 = .ok (.iload_n 3, 1) := by decide +kernel
theorem dX6_identity_11 : decode cX6_identity 11 = .ok (.i2l, 1) := by decide +kernel
theorem dX6_identity_12 : decode cX6_identity 12 = .ok (.bipush 36, 2) := by decide +kernel
theorem dX6_identity_14 : decode cX6_identity 14 = .ok (.iconst 4, 1) := by decide +kernel
theorem dX6_identity_15 : decode cX6_identity 15 = .ok (.iload_n 3, 1) := by decide +kernel
theorem dX6_identity_16 : decode cX6_identity 16 = .ok (.imul, 1) := by decide +kernel
theorem dX6_identity_17 : decode cX6_identity 17 = .ok (.isub, 1) := by decide +kernel
theorem dX6_identity_18 : decode cX6_identity 18 = .ok (.lshl, 1) := by decide +kernel
theorem dX6_identity_19 : decode cX6_identity 19 = .ok (.lor, 1) := by decide +kernel
theorem dX6_identity_20 : decode cX6_identity 20 = .ok (.lstore_n 1, 1) := by decide +kernel
theorem dX6_identity_21 : decode cX6_identity 21 = .ok (.iinc 3 1, 3) := by decide +kernel
theorem dX6_identity_24 : decode cX6_identity 24 = .ok (.goto (-20), 3) := by decide +kernel
theorem dX6_identity_27 : decode cX6_identity 27 = .ok (.lload_n 1, 1) := by decide +kernel
theorem dX6_identity_28 : decode cX6_identity 28 = .ok (.lreturn, 1) := by decide +kernel
theorem dX6_compose_0 : decode cX6_compose 0 = .ok (.lconst 0, 1) := by decide +kernel
theorem dX6_compose_1 : decode cX6_compose 1 = .ok (.lstore 5, 2) := by decide +kernel
theorem dX6_compose_3 : decode cX6_compose 3 = .ok (.bipush 36, 2) := by decide +kernel
theorem dX6_compose_5 : decode cX6_compose 5 = .ok (.iconst 4, 1) := by decide +kernel
theorem dX6_compose_6 : decode cX6_compose 6 = .ok (.iload 4, 2) := by decide +kernel
theorem dX6_compose_8 : decode cX6_compose 8 = .ok (.imul, 1) := by decide +kernel
theorem dX6_compose_9 : decode cX6_compose 9 = .ok (.isub, 1) := by decide +kernel
theorem dX6_compose_10 : decode cX6_compose 10 = .ok (.istore 7, 2) := by decide +kernel
theorem dX6_compose_12 : decode cX6_compose 12 = .ok (.bipush 36, 2) := by decide +kernel
theorem dX6_compose_14 : decode cX6_compose 14 = .ok (.istore 8, 2) := by decide +kernel
theorem dX6_compose_16 : decode cX6_compose 16 = .ok (.iload 8, 2) := by decide +kernel
theorem dX6_compose_18 : decode cX6_compose 18 = .ok (.iload 7, 2) := by decide +kernel
theorem dX6_compose_20 : decode cX6_compose 20 = .ok (.if_icmp .le 40, 3) := by decide +kernel
theorem dX6_compose_23 : decode cX6_compose 23 = .ok (.lload_n 0, 1) := by decide +kernel
theorem dX6_compose_24 : decode cX6_compose 24 = .ok (.iload 8, 2) := by decide +kernel
theorem dX6_compose_26 : decode cX6_compose 26 = .ok (.lushr, 1) := by decide +kernel
theorem dX6_compose_27 : decode cX6_compose 27 = .ok (.l2i, 1) := by decide +kernel
theorem dX6_compose_28 : decode cX6_compose 28 = .ok (.bipush 15, 2) := by decide +kernel
theorem dX6_compose_30 : decode cX6_compose 30 = .ok (.iand, 1) := by decide +kernel
theorem dX6_compose_31 : decode cX6_compose 31 = .ok (.istore 9, 2) := by decide +kernel
theorem dX6_compose_33 : decode cX6_compose 33 = .ok (.lload 5, 2) := by decide +kernel
theorem dX6_compose_35 : decode cX6_compose 35 = .ok (.lload_n 2, 1) := by decide +kernel
theorem dX6_compose_36 : decode cX6_compose 36 = .ok (.bipush 36, 2) := by decide +kernel
theorem dX6_compose_38 : decode cX6_compose 38 = .ok (.iconst 4, 1) := by decide +kernel
theorem dX6_compose_39 : decode cX6_compose 39 = .ok (.iload 9, 2) := by decide +kernel
theorem dX6_compose_41 : decode cX6_compose 41 = .ok (.imul, 1) := by decide +kernel
theorem dX6_compose_42 : decode cX6_compose 42 = .ok (.isub, 1) := by decide +kernel
theorem dX6_compose_43 : decode cX6_compose 43 = .ok (.lushr, 1) := by decide +kernel
theorem dX6_compose_44 : decode cX6_compose 44 = .ok (.ldc2_w 11, 3) := by decide +kernel
theorem dX6_compose_47 : decode cX6_compose 47 = .ok (.land, 1) := by decide +kernel
theorem dX6_compose_48 : decode cX6_compose 48 = .ok (.iload 8, 2) := by decide +kernel
theorem dX6_compose_50 : decode cX6_compose 50 = .ok (.lshl, 1) := by decide +kernel
theorem dX6_compose_51 : decode cX6_compose 51 = .ok (.lor, 1) := by decide +kernel
theorem dX6_compose_52 : decode cX6_compose 52 = .ok (.lstore 5, 2) := by decide +kernel
theorem dX6_compose_54 : decode cX6_compose 54 = .ok (.iinc 8 (-4), 3) := by decide +kernel
theorem dX6_compose_57 : decode cX6_compose 57 = .ok (.goto (-41), 3) := by decide +kernel
theorem dX6_compose_60 : decode cX6_compose 60 = .ok (.lload 5, 2) := by decide +kernel
theorem dX6_compose_62 : decode cX6_compose 62 = .ok (.lreturn, 1) := by decide +kernel
theorem dX6_invert_0 : decode cX6_invert 0 = .ok (.lconst 0, 1) := by decide +kernel
theorem dX6_invert_1 : decode cX6_invert 1 = .ok (.lstore_n 3, 1) := by decide +kernel
theorem dX6_invert_2 : decode cX6_invert 2 = .ok (.iconst 0, 1) := by decide +kernel
theorem dX6_invert_3 : decode cX6_invert 3 = .ok (.istore 5, 2) := by decide +kernel
theorem dX6_invert_5 : decode cX6_invert 5 = .ok (.iload 5, 2) := by decide +kernel
theorem dX6_invert_7 : decode cX6_invert 7 = .ok (.iload_n 2, 1) := by decide +kernel
theorem dX6_invert_8 : decode cX6_invert 8 = .ok (.if_icmp .ge 38, 3) := by decide +kernel
theorem dX6_invert_11 : decode cX6_invert 11 = .ok (.lload_n 0, 1) := by decide +kernel
theorem dX6_invert_12 : decode cX6_invert 12 = .ok (.bipush 36, 2) := by decide +kernel
theorem dX6_invert_14 : decode cX6_invert 14 = .ok (.iconst 4, 1) := by decide +kernel
theorem dX6_invert_15 : decode cX6_invert 15 = .ok (.iload 5, 2) := by decide +kernel
theorem dX6_invert_17 : decode cX6_invert 17 = .ok (.imul, 1) := by decide +kernel
theorem dX6_invert_18 : decode cX6_invert 18 = .ok (.isub, 1) := by decide +kernel
theorem dX6_invert_19 : decode cX6_invert 19 = .ok (.lushr, 1) := by decide +kernel
theorem dX6_invert_20 : decode cX6_invert 20 = .ok (.l2i, 1) := by decide +kernel
theorem dX6_invert_21 : decode cX6_invert 21 = .ok (.bipush 15, 2) := by decide +kernel
theorem dX6_invert_23 : decode cX6_invert 23 = .ok (.iand, 1) := by decide +kernel
theorem dX6_invert_24 : decode cX6_invert 24 = .ok (.istore 6, 2) := by decide +kernel
theorem dX6_invert_26 : decode cX6_invert 26 = .ok (.lload_n 3, 1) := by decide +kernel
theorem dX6_invert_27 : decode cX6_invert 27 = .ok (.iload 5, 2) := by decide +kernel
theorem dX6_invert_29 : decode cX6_invert 29 = .ok (.i2l, 1) := by decide +kernel
theorem dX6_invert_30 : decode cX6_invert 30 = .ok (.bipush 36, 2) := by decide +kernel
theorem dX6_invert_32 : decode cX6_invert 32 = .ok (.iconst 4, 1) := by decide +kernel
theorem dX6_invert_33 : decode cX6_invert 33 = .ok (.iload 6, 2) := by decide +kernel
theorem dX6_invert_35 : decode cX6_invert 35 = .ok (.imul, 1) := by decide +kernel
theorem dX6_invert_36 : decode cX6_invert 36 = .ok (.isub, 1) := by decide +kernel
theorem dX6_invert_37 : decode cX6_invert 37 = .ok (.lshl, 1) := by decide +kernel
theorem dX6_invert_38 : decode cX6_invert 38 = .ok (.lor, 1) := by decide +kernel
theorem dX6_invert_39 : decode cX6_invert 39 = .ok (.lstore_n 3, 1) := by decide +kernel
theorem dX6_invert_40 : decode cX6_invert 40 = .ok (.iinc 5 1, 3) := by decide +kernel
theorem dX6_invert_43 : decode cX6_invert 43 = .ok (.goto (-38), 3) := by decide +kernel
theorem dX6_invert_46 : decode cX6_invert 46 = .ok (.lload_n 3, 1) := by decide +kernel
theorem dX6_invert_47 : decode cX6_invert 47 = .ok (.lreturn, 1) := by decide +kernel
theorem dX6_conjugate_0 : decode cX6_conjugate 0 = .ok (.lconst 0, 1) := by decide +kernel
theorem dX6_conjugate_1 : decode cX6_conjugate 1 = .ok (.lstore 5, 2) := by decide +kernel
theorem dX6_conjugate_3 : decode cX6_conjugate 3 = .ok (.iconst 0, 1) := by decide +kernel
theorem dX6_conjugate_4 : decode cX6_conjugate 4 = .ok (.istore 7, 2) := by decide +kernel
theorem dX6_conjugate_6 : decode cX6_conjugate 6 = .ok (.iload 7, 2) := by decide +kernel
theorem dX6_conjugate_8 : decode cX6_conjugate 8 = .ok (.iload 4, 2) := by decide +kernel
theorem dX6_conjugate_10 : decode cX6_conjugate 10 = .ok (.if_icmp .ge 37, 3) := by decide +kernel
theorem dX6_conjugate_13 : decode cX6_conjugate 13 = .ok (.lload 5, 2) := by decide +kernel
theorem dX6_conjugate_15 : decode cX6_conjugate 15 = .ok (.lload_n 2, 1) := by decide +kernel
theorem dX6_conjugate_16 : decode cX6_conjugate 16 = .ok (.lload_n 0, 1) := by decide +kernel
theorem dX6_conjugate_17 : decode cX6_conjugate 17 = .ok (.iload 7, 2) := by decide +kernel
theorem dX6_conjugate_19 : decode cX6_conjugate 19 = .ok (.invokestatic 15, 3) := by decide +kernel
theorem dX6_conjugate_22 : decode cX6_conjugate 22 = .ok (.invokestatic 15, 3) := by decide +kernel
theorem dX6_conjugate_25 : decode cX6_conjugate 25 = .ok (.i2l, 1) := by decide +kernel
theorem dX6_conjugate_26 : decode cX6_conjugate 26 = .ok (.bipush 36, 2) := by decide +kernel
theorem dX6_conjugate_28 : decode cX6_conjugate 28 = .ok (.iconst 4, 1) := by decide +kernel
theorem dX6_conjugate_29 : decode cX6_conjugate 29 = .ok (.lload_n 2, 1) := by decide +kernel
theorem dX6_conjugate_30 : decode cX6_conjugate 30 = .ok (.iload 7, 2) := by decide +kernel
theorem dX6_conjugate_32 : decode cX6_conjugate 32 = .ok (.invokestatic 15, 3) := by decide +kernel
theorem dX6_conjugate_35 : decode cX6_conjugate 35 = .ok (.imul, 1) := by decide +kernel
theorem dX6_conjugate_36 : decode cX6_conjugate 36 = .ok (.isub, 1) := by decide +kernel
theorem dX6_conjugate_37 : decode cX6_conjugate 37 = .ok (.lshl, 1) := by decide +kernel
theorem dX6_conjugate_38 : decode cX6_conjugate 38 = .ok (.lor, 1) := by decide +kernel
theorem dX6_conjugate_39 : decode cX6_conjugate 39 = .ok (.lstore 5, 2) := by decide +kernel
theorem dX6_conjugate_41 : decode cX6_conjugate 41 = .ok (.iinc 7 1, 3) := by decide +kernel
theorem dX6_conjugate_44 : decode cX6_conjugate 44 = .ok (.goto (-38), 3) := by decide +kernel
theorem dX6_conjugate_47 : decode cX6_conjugate 47 = .ok (.lload 5, 2) := by decide +kernel
theorem dX6_conjugate_49 : decode cX6_conjugate 49 = .ok (.lreturn, 1) := by decide +kernel
theorem dX6_commutatorOf_0 : decode cX6_commutatorOf 0 = .ok (.lload_n 2, 1) := by decide +kernel
theorem dX6_commutatorOf_1 : decode cX6_commutatorOf 1 = .ok (.lload_n 0, 1) := by decide +kernel
theorem dX6_commutatorOf_2 : decode cX6_commutatorOf 2 = .ok (.iload 4, 2) := by decide +kernel
theorem dX6_commutatorOf_4 : decode cX6_commutatorOf 4 = .ok (.invokestatic 19, 3) := by decide +kernel
theorem dX6_commutatorOf_7 : decode cX6_commutatorOf 7 = .ok (.iload 4, 2) := by decide +kernel
theorem dX6_commutatorOf_9 : decode cX6_commutatorOf 9 = .ok (.invokestatic 23, 3) := by decide +kernel
theorem dX6_commutatorOf_12 : decode cX6_commutatorOf 12 = .ok (.lstore 5, 2) := by decide +kernel
theorem dX6_commutatorOf_14 : decode cX6_commutatorOf 14 = .ok (.lload 5, 2) := by decide +kernel
theorem dX6_commutatorOf_16 : decode cX6_commutatorOf 16 = .ok (.lload_n 0, 1) := by decide +kernel
theorem dX6_commutatorOf_17 : decode cX6_commutatorOf 17 = .ok (.lload_n 2, 1) := by decide +kernel
theorem dX6_commutatorOf_18 : decode cX6_commutatorOf 18 = .ok (.iload 4, 2) := by decide +kernel
theorem dX6_commutatorOf_20 : decode cX6_commutatorOf 20 = .ok (.invokestatic 19, 3) := by decide +kernel
theorem dX6_commutatorOf_23 : decode cX6_commutatorOf 23 = .ok (.iload 4, 2) := by decide +kernel
theorem dX6_commutatorOf_25 : decode cX6_commutatorOf 25 = .ok (.invokestatic 19, 3) := by decide +kernel
theorem dX6_commutatorOf_28 : decode cX6_commutatorOf 28 = .ok (.lreturn, 1) := by decide +kernel
theorem dX6_commute_0 : decode cX6_commute 0 = .ok (.iconst 0, 1) := by decide +kernel
theorem dX6_commute_1 : decode cX6_commute 1 = .ok (.istore 5, 2) := by decide +kernel
theorem dX6_commute_3 : decode cX6_commute 3 = .ok (.iload 5, 2) := by decide +kernel
theorem dX6_commute_5 : decode cX6_commute 5 = .ok (.iload 4, 2) := by decide +kernel
theorem dX6_commute_7 : decode cX6_commute 7 = .ok (.if_icmp .ge 34, 3) := by decide +kernel
theorem dX6_commute_10 : decode cX6_commute 10 = .ok (.lload_n 2, 1) := by decide +kernel
theorem dX6_commute_11 : decode cX6_commute 11 = .ok (.lload_n 0, 1) := by decide +kernel
theorem dX6_commute_12 : decode cX6_commute 12 = .ok (.iload 5, 2) := by decide +kernel
theorem dX6_commute_14 : decode cX6_commute 14 = .ok (.invokestatic 15, 3) := by decide +kernel
theorem dX6_commute_17 : decode cX6_commute 17 = .ok (.invokestatic 15, 3) := by decide +kernel
theorem dX6_commute_20 : decode cX6_commute 20 = .ok (.lload_n 0, 1) := by decide +kernel
theorem dX6_commute_21 : decode cX6_commute 21 = .ok (.lload_n 2, 1) := by decide +kernel
theorem dX6_commute_22 : decode cX6_commute 22 = .ok (.iload 5, 2) := by decide +kernel
theorem dX6_commute_24 : decode cX6_commute 24 = .ok (.invokestatic 15, 3) := by decide +kernel
theorem dX6_commute_27 : decode cX6_commute 27 = .ok (.invokestatic 15, 3) := by decide +kernel
theorem dX6_commute_30 : decode cX6_commute 30 = .ok (.if_icmp .eq 5, 3) := by decide +kernel
theorem dX6_commute_33 : decode cX6_commute 33 = .ok (.iconst 0, 1) := by decide +kernel
theorem dX6_commute_34 : decode cX6_commute 34 = .ok (.ireturn, 1) := by decide +kernel
theorem dX6_commute_35 : decode cX6_commute 35 = .ok (.iinc 5 1, 3) := by decide +kernel
theorem dX6_commute_38 : decode cX6_commute 38 = .ok (.goto (-35), 3) := by decide +kernel
theorem dX6_commute_41 : decode cX6_commute 41 = .ok (.iconst 1, 1) := by decide +kernel
theorem dX6_commute_42 : decode cX6_commute 42 = .ok (.ireturn, 1) := by decide +kernel
theorem dX6_imageOfPower_0 : decode cX6_imageOfPower 0 = .ok (.iconst 1, 1) := by decide +kernel
theorem dX6_imageOfPower_1 : decode cX6_imageOfPower 1 = .ok (.istore 4, 2) := by decide +kernel
theorem dX6_imageOfPower_3 : decode cX6_imageOfPower 3 = .ok (.lload_n 0, 1) := by decide +kernel
theorem dX6_imageOfPower_4 : decode cX6_imageOfPower 4 = .ok (.iload_n 2, 1) := by decide +kernel
theorem dX6_imageOfPower_5 : decode cX6_imageOfPower 5 = .ok (.invokestatic 15, 3) := by decide +kernel
theorem dX6_imageOfPower_8 : decode cX6_imageOfPower 8 = .ok (.istore 5, 2) := by decide +kernel
theorem dX6_imageOfPower_10 : decode cX6_imageOfPower 10 = .ok (.iconst 0, 1) := by decide +kernel
theorem dX6_imageOfPower_11 : decode cX6_imageOfPower 11 = .ok (.istore 6, 2) := by decide +kernel
theorem dX6_imageOfPower_13 : decode cX6_imageOfPower 13 = .ok (.iload 6, 2) := by decide +kernel
theorem dX6_imageOfPower_15 : decode cX6_imageOfPower 15 = .ok (.bipush 10, 2) := by decide +kernel
theorem dX6_imageOfPower_17 : decode cX6_imageOfPower 17 = .ok (.if_icmp .ge 26, 3) := by decide +kernel
theorem dX6_imageOfPower_20 : decode cX6_imageOfPower 20 = .ok (.iload 5, 2) := by decide +kernel
theorem dX6_imageOfPower_22 : decode cX6_imageOfPower 22 = .ok (.iload_n 2, 1) := by decide +kernel
theorem dX6_imageOfPower_23 : decode cX6_imageOfPower 23 = .ok (.if_icmp .eq 20, 3) := by decide +kernel
theorem dX6_imageOfPower_26 : decode cX6_imageOfPower 26 = .ok (.lload_n 0, 1) := by decide +kernel
theorem dX6_imageOfPower_27 : decode cX6_imageOfPower 27 = .ok (.iload 5, 2) := by decide +kernel
theorem dX6_imageOfPower_29 : decode cX6_imageOfPower 29 = .ok (.invokestatic 15, 3) := by decide +kernel
theorem dX6_imageOfPower_32 : decode cX6_imageOfPower 32 = .ok (.istore 5, 2) := by decide +kernel
theorem dX6_imageOfPower_34 : decode cX6_imageOfPower 34 = .ok (.iinc 4 1, 3) := by decide +kernel
theorem dX6_imageOfPower_37 : decode cX6_imageOfPower 37 = .ok (.iinc 6 1, 3) := by decide +kernel
theorem dX6_imageOfPower_40 : decode cX6_imageOfPower 40 = .ok (.goto (-27), 3) := by decide +kernel
theorem dX6_imageOfPower_43 : decode cX6_imageOfPower 43 = .ok (.iload 4, 2) := by decide +kernel
theorem dX6_imageOfPower_45 : decode cX6_imageOfPower 45 = .ok (.ifCond .le 12, 3) := by decide +kernel
theorem dX6_imageOfPower_48 : decode cX6_imageOfPower 48 = .ok (.iload_n 3, 1) := by decide +kernel
theorem dX6_imageOfPower_49 : decode cX6_imageOfPower 49 = .ok (.iload 4, 2) := by decide +kernel
theorem dX6_imageOfPower_51 : decode cX6_imageOfPower 51 = .ok (.invokestatic 27, 3) := by decide +kernel
theorem dX6_imageOfPower_54 : decode cX6_imageOfPower 54 = .ok (.goto 4, 3) := by decide +kernel
theorem dX6_imageOfPower_57 : decode cX6_imageOfPower 57 = .ok (.iconst 0, 1) := by decide +kernel
theorem dX6_imageOfPower_58 : decode cX6_imageOfPower 58 = .ok (.istore 6, 2) := by decide +kernel
theorem dX6_imageOfPower_60 : decode cX6_imageOfPower 60 = .ok (.iload_n 2, 1) := by decide +kernel
theorem dX6_imageOfPower_61 : decode cX6_imageOfPower 61 = .ok (.istore 5, 2) := by decide +kernel
theorem dX6_imageOfPower_63 : decode cX6_imageOfPower 63 = .ok (.iconst 0, 1) := by decide +kernel
theorem dX6_imageOfPower_64 : decode cX6_imageOfPower 64 = .ok (.istore 7, 2) := by decide +kernel
theorem dX6_imageOfPower_66 : decode cX6_imageOfPower 66 = .ok (.iload 7, 2) := by decide +kernel
theorem dX6_imageOfPower_68 : decode cX6_imageOfPower 68 = .ok (.iload 6, 2) := by decide +kernel
theorem dX6_imageOfPower_70 : decode cX6_imageOfPower 70 = .ok (.if_icmp .ge 17, 3) := by decide +kernel
theorem dX6_imageOfPower_73 : decode cX6_imageOfPower 73 = .ok (.lload_n 0, 1) := by decide +kernel
theorem dX6_imageOfPower_74 : decode cX6_imageOfPower 74 = .ok (.iload 5, 2) := by decide +kernel
theorem dX6_imageOfPower_76 : decode cX6_imageOfPower 76 = .ok (.invokestatic 15, 3) := by decide +kernel
theorem dX6_imageOfPower_79 : decode cX6_imageOfPower 79 = .ok (.istore 5, 2) := by decide +kernel
theorem dX6_imageOfPower_81 : decode cX6_imageOfPower 81 = .ok (.iinc 7 1, 3) := by decide +kernel
theorem dX6_imageOfPower_84 : decode cX6_imageOfPower 84 = .ok (.goto (-18), 3) := by decide +kernel
theorem dX6_imageOfPower_87 : decode cX6_imageOfPower 87 = .ok (.iload 5, 2) := by decide +kernel
theorem dX6_imageOfPower_89 : decode cX6_imageOfPower 89 = .ok (.ireturn, 1) := by decide +kernel
theorem dX6_raise_0 : decode cX6_raise 0 = .ok (.lconst 0, 1) := by decide +kernel
theorem dX6_raise_1 : decode cX6_raise 1 = .ok (.lstore 4, 2) := by decide +kernel
theorem dX6_raise_3 : decode cX6_raise 3 = .ok (.iconst 0, 1) := by decide +kernel
theorem dX6_raise_4 : decode cX6_raise 4 = .ok (.istore 6, 2) := by decide +kernel
theorem dX6_raise_6 : decode cX6_raise 6 = .ok (.iload 6, 2) := by decide +kernel
theorem dX6_raise_8 : decode cX6_raise 8 = .ok (.iload_n 3, 1) := by decide +kernel
theorem dX6_raise_9 : decode cX6_raise 9 = .ok (.if_icmp .ge 30, 3) := by decide +kernel
theorem dX6_raise_12 : decode cX6_raise 12 = .ok (.lload 4, 2) := by decide +kernel
theorem dX6_raise_14 : decode cX6_raise 14 = .ok (.lload_n 0, 1) := by decide +kernel
theorem dX6_raise_15 : decode cX6_raise 15 = .ok (.iload 6, 2) := by decide +kernel
theorem dX6_raise_17 : decode cX6_raise 17 = .ok (.iload_n 2, 1) := by decide +kernel
theorem dX6_raise_18 : decode cX6_raise 18 = .ok (.invokestatic 33, 3) := by decide +kernel
theorem dX6_raise_21 : decode cX6_raise 21 = .ok (.i2l, 1) := by decide +kernel
theorem dX6_raise_22 : decode cX6_raise 22 = .ok (.bipush 36, 2) := by decide +kernel
theorem dX6_raise_24 : decode cX6_raise 24 = .ok (.iconst 4, 1) := by decide +kernel
theorem dX6_raise_25 : decode cX6_raise 25 = .ok (.iload 6, 2) := by decide +kernel
theorem dX6_raise_27 : decode cX6_raise 27 = .ok (.imul, 1) := by decide +kernel
theorem dX6_raise_28 : decode cX6_raise 28 = .ok (.isub, 1) := by decide +kernel
theorem dX6_raise_29 : decode cX6_raise 29 = .ok (.lshl, 1) := by decide +kernel
theorem dX6_raise_30 : decode cX6_raise 30 = .ok (.lor, 1) := by decide +kernel
theorem dX6_raise_31 : decode cX6_raise 31 = .ok (.lstore 4, 2) := by decide +kernel
theorem dX6_raise_33 : decode cX6_raise 33 = .ok (.iinc 6 1, 3) := by decide +kernel
theorem dX6_raise_36 : decode cX6_raise 36 = .ok (.goto (-30), 3) := by decide +kernel
theorem dX6_raise_39 : decode cX6_raise 39 = .ok (.lload 4, 2) := by decide +kernel
theorem dX6_raise_41 : decode cX6_raise 41 = .ok (.lreturn, 1) := by decide +kernel
theorem dX6_shape_0 : decode cX6_shape 0 = .ok (.lconst 0, 1) := by decide +kernel
theorem dX6_shape_1 : decode cX6_shape 1 = .ok (.lstore_n 3, 1) := by decide +kernel
theorem dX6_shape_2 : decode cX6_shape 2 = .ok (.iconst 0, 1) := by decide +kernel
theorem dX6_shape_3 : decode cX6_shape 3 = .ok (.istore 5, 2) := by decide +kernel
theorem dX6_shape_5 : decode cX6_shape 5 = .ok (.iconst 0, 1) := by decide +kernel
theorem dX6_shape_6 : decode cX6_shape 6 = .ok (.istore 6, 2) := by decide +kernel
theorem dX6_shape_8 : decode cX6_shape 8 = .ok (.iload 6, 2) := by decide +kernel
theorem dX6_shape_10 : decode cX6_shape 10 = .ok (.iload_n 2, 1) := by decide +kernel
theorem dX6_shape_11 : decode cX6_shape 11 = .ok (.if_icmp .ge 85, 3) := by decide +kernel
theorem dX6_shape_14 : decode cX6_shape 14 = .ok (.iload 5, 2) := by decide +kernel
theorem dX6_shape_16 : decode cX6_shape 16 = .ok (.iload 6, 2) := by decide +kernel
theorem dX6_shape_18 : decode cX6_shape 18 = .ok (.ishr, 1) := by decide +kernel
theorem dX6_shape_19 : decode cX6_shape 19 = .ok (.iconst 1, 1) := by decide +kernel
theorem dX6_shape_20 : decode cX6_shape 20 = .ok (.iand, 1) := by decide +kernel
theorem dX6_shape_21 : decode cX6_shape 21 = .ok (.ifCond .eq 6, 3) := by decide +kernel
theorem dX6_shape_24 : decode cX6_shape 24 = .ok (.goto 66, 3) := by decide +kernel
theorem dX6_shape_27 : decode cX6_shape 27 = .ok (.iconst 0, 1) := by decide +kernel
theorem dX6_shape_28 : decode cX6_shape 28 = .ok (.istore 7, 2) := by decide +kernel
theorem dX6_shape_30 : decode cX6_shape 30 = .ok (.iload 6, 2) := by decide +kernel
theorem dX6_shape_32 : decode cX6_shape 32 = .ok (.istore 8, 2) := by decide +kernel
theorem dX6_shape_34 : decode cX6_shape 34 = .ok (.iconst 0, 1) := by decide +kernel
theorem dX6_shape_35 : decode cX6_shape 35 = .ok (.istore 9, 2) := by decide +kernel
theorem dX6_shape_37 : decode cX6_shape 37 = .ok (.iload 9, 2) := by decide +kernel
theorem dX6_shape_39 : decode cX6_shape 39 = .ok (.iload_n 2, 1) := by decide +kernel
theorem dX6_shape_40 : decode cX6_shape 40 = .ok (.if_icmp .ge 39, 3) := by decide +kernel
theorem dX6_shape_43 : decode cX6_shape 43 = .ok (.iload 5, 2) := by decide +kernel
theorem dX6_shape_45 : decode cX6_shape 45 = .ok (.iload 8, 2) := by decide +kernel
theorem dX6_shape_47 : decode cX6_shape 47 = .ok (.ishr, 1) := by decide +kernel
theorem dX6_shape_48 : decode cX6_shape 48 = .ok (.iconst 1, 1) := by decide +kernel
theorem dX6_shape_49 : decode cX6_shape 49 = .ok (.iand, 1) := by decide +kernel
theorem dX6_shape_50 : decode cX6_shape 50 = .ok (.ifCond .ne 29, 3) := by decide +kernel
theorem dX6_shape_53 : decode cX6_shape 53 = .ok (.iload 5, 2) := by decide +kernel
theorem dX6_shape_55 : decode cX6_shape 55 = .ok (.iconst 1, 1) := by decide +kernel
theorem dX6_shape_56 : decode cX6_shape 56 = .ok (.iload 8, 2) := by decide +kernel
theorem dX6_shape_58 : decode cX6_shape 58 = .ok (.ishl, 1) := by decide +kernel
theorem dX6_shape_59 : decode cX6_shape 59 = .ok (.ior, 1) := by decide +kernel
theorem dX6_shape_60 : decode cX6_shape 60 = .ok (.istore 5, 2) := by decide +kernel
theorem dX6_shape_62 : decode cX6_shape 62 = .ok (.lload_n 0, 1) := by decide +kernel
theorem dX6_shape_63 : decode cX6_shape 63 = .ok (.iload 8, 2) := by decide +kernel
theorem dX6_shape_65 : decode cX6_shape 65 = .ok (.invokestatic 15, 3) := by decide +kernel
theorem dX6_shape_68 : decode cX6_shape 68 = .ok (.istore 8, 2) := by decide +kernel
theorem dX6_shape_70 : decode cX6_shape 70 = .ok (.iinc 7 1, 3) := by decide +kernel
theorem dX6_shape_73 : decode cX6_shape 73 = .ok (.iinc 9 1, 3) := by decide +kernel
theorem dX6_shape_76 : decode cX6_shape 76 = .ok (.goto (-39), 3) := by decide +kernel
theorem dX6_shape_79 : decode cX6_shape 79 = .ok (.lload_n 3, 1) := by decide +kernel
theorem dX6_shape_80 : decode cX6_shape 80 = .ok (.lconst 1, 1) := by decide +kernel
theorem dX6_shape_81 : decode cX6_shape 81 = .ok (.iconst 4, 1) := by decide +kernel
theorem dX6_shape_82 : decode cX6_shape 82 = .ok (.iload 7, 2) := by decide +kernel
theorem dX6_shape_84 : decode cX6_shape 84 = .ok (.imul, 1) := by decide +kernel
theorem dX6_shape_85 : decode cX6_shape 85 = .ok (.iconst 4, 1) := by decide +kernel
theorem dX6_shape_86 : decode cX6_shape 86 = .ok (.isub, 1) := by decide +kernel
theorem dX6_shape_87 : decode cX6_shape 87 = .ok (.lshl, 1) := by decide +kernel
theorem dX6_shape_88 : decode cX6_shape 88 = .ok (.ladd, 1) := by decide +kernel
theorem dX6_shape_89 : decode cX6_shape 89 = .ok (.lstore_n 3, 1) := by decide +kernel
theorem dX6_shape_90 : decode cX6_shape 90 = .ok (.iinc 6 1, 3) := by decide +kernel
theorem dX6_shape_93 : decode cX6_shape 93 = .ok (.goto (-85), 3) := by decide +kernel
theorem dX6_shape_96 : decode cX6_shape 96 = .ok (.lload_n 3, 1) := by decide +kernel
theorem dX6_shape_97 : decode cX6_shape 97 = .ok (.lreturn, 1) := by decide +kernel
theorem dX6_cycles_0 : decode cX6_cycles 0 = .ok (.iconst 0, 1) := by decide +kernel
theorem dX6_cycles_1 : decode cX6_cycles 1 = .ok (.istore_n 2, 1) := by decide +kernel
theorem dX6_cycles_2 : decode cX6_cycles 2 = .ok (.iconst 0, 1) := by decide +kernel
theorem dX6_cycles_3 : decode cX6_cycles 3 = .ok (.istore_n 3, 1) := by decide +kernel
theorem dX6_cycles_4 : decode cX6_cycles 4 = .ok (.iload_n 3, 1) := by decide +kernel
theorem dX6_cycles_5 : decode cX6_cycles 5 = .ok (.bipush 40, 2) := by decide +kernel
theorem dX6_cycles_7 : decode cX6_cycles 7 = .ok (.if_icmp .ge 19, 3) := by decide +kernel
theorem dX6_cycles_10 : decode cX6_cycles 10 = .ok (.iload_n 2, 1) := by decide +kernel
theorem dX6_cycles_11 : decode cX6_cycles 11 = .ok (.lload_n 0, 1) := by decide +kernel
theorem dX6_cycles_12 : decode cX6_cycles 12 = .ok (.iload_n 3, 1) := by decide +kernel
theorem dX6_cycles_13 : decode cX6_cycles 13 = .ok (.lushr, 1) := by decide +kernel
theorem dX6_cycles_14 : decode cX6_cycles 14 = .ok (.l2i, 1) := by decide +kernel
theorem dX6_cycles_15 : decode cX6_cycles 15 = .ok (.bipush 15, 2) := by decide +kernel
theorem dX6_cycles_17 : decode cX6_cycles 17 = .ok (.iand, 1) := by decide +kernel
theorem dX6_cycles_18 : decode cX6_cycles 18 = .ok (.iadd, 1) := by decide +kernel
theorem dX6_cycles_19 : decode cX6_cycles 19 = .ok (.istore_n 2, 1) := by decide +kernel
theorem dX6_cycles_20 : decode cX6_cycles 20 = .ok (.iinc 3 4, 3) := by decide +kernel
theorem dX6_cycles_23 : decode cX6_cycles 23 = .ok (.goto (-19), 3) := by decide +kernel
theorem dX6_cycles_26 : decode cX6_cycles 26 = .ok (.iload_n 2, 1) := by decide +kernel
theorem dX6_cycles_27 : decode cX6_cycles 27 = .ok (.ireturn, 1) := by decide +kernel
theorem dX6_staying_0 : decode cX6_staying 0 = .ok (.lload_n 0, 1) := by decide +kernel
theorem dX6_staying_1 : decode cX6_staying 1 = .ok (.l2i, 1) := by decide +kernel
theorem dX6_staying_2 : decode cX6_staying 2 = .ok (.bipush 15, 2) := by decide +kernel
theorem dX6_staying_4 : decode cX6_staying 4 = .ok (.iand, 1) := by decide +kernel
theorem dX6_staying_5 : decode cX6_staying 5 = .ok (.ireturn, 1) := by decide +kernel
theorem dX6_period_0 : decode cX6_period 0 = .ok (.iconst 1, 1) := by decide +kernel
theorem dX6_period_1 : decode cX6_period 1 = .ok (.istore_n 2, 1) := by decide +kernel
theorem dX6_period_2 : decode cX6_period 2 = .ok (.iconst 2, 1) := by decide +kernel
theorem dX6_period_3 : decode cX6_period 3 = .ok (.istore_n 3, 1) := by decide +kernel
theorem dX6_period_4 : decode cX6_period 4 = .ok (.iload_n 3, 1) := by decide +kernel
theorem dX6_period_5 : decode cX6_period 5 = .ok (.bipush 10, 2) := by decide +kernel
theorem dX6_period_7 : decode cX6_period 7 = .ok (.if_icmp .gt 48, 3) := by decide +kernel
theorem dX6_period_10 : decode cX6_period 10 = .ok (.lload_n 0, 1) := by decide +kernel
theorem dX6_period_11 : decode cX6_period 11 = .ok (.iconst 4, 1) := by decide +kernel
theorem dX6_period_12 : decode cX6_period 12 = .ok (.iload_n 3, 1) := by decide +kernel
theorem dX6_period_13 : decode cX6_period 13 = .ok (.imul, 1) := by decide +kernel
theorem dX6_period_14 : decode cX6_period 14 = .ok (.iconst 4, 1) := by decide +kernel
theorem dX6_period_15 : decode cX6_period 15 = .ok (.isub, 1) := by decide +kernel
theorem dX6_period_16 : decode cX6_period 16 = .ok (.lushr, 1) := by decide +kernel
theorem dX6_period_17 : decode cX6_period 17 = .ok (.ldc2_w 11, 3) := by decide +kernel
theorem dX6_period_20 : decode cX6_period 20 = .ok (.land, 1) := by decide +kernel
theorem dX6_period_21 : decode cX6_period 21 = .ok (.lconst 0, 1) := by decide +kernel
theorem dX6_period_22 : decode cX6_period 22 = .ok (.lcmp, 1) := by decide +kernel
theorem dX6_period_23 : decode cX6_period 23 = .ok (.ifCond .eq 26, 3) := by decide +kernel
theorem dX6_period_26 : decode cX6_period 26 = .ok (.iload_n 2, 1) := by decide +kernel
theorem dX6_period_27 : decode cX6_period 27 = .ok (.iload_n 3, 1) := by decide +kernel
theorem dX6_period_28 : decode cX6_period 28 = .ok (.invokestatic 37, 3) := by decide +kernel
theorem dX6_period_31 : decode cX6_period 31 = .ok (.istore 4, 2) := by decide +kernel
theorem dX6_period_33 : decode cX6_period 33 = .ok (.iload_n 2, 1) := by decide +kernel
theorem dX6_period_34 : decode cX6_period 34 = .ok (.iload 4, 2) := by decide +kernel
theorem dX6_period_36 : decode cX6_period 36 = .ok (.ifCond .le 10, 3) := by decide +kernel
theorem dX6_period_39 : decode cX6_period 39 = .ok (.iload_n 3, 1) := by decide +kernel
theorem dX6_period_40 : decode cX6_period 40 = .ok (.iload 4, 2) := by decide +kernel
theorem dX6_period_42 : decode cX6_period 42 = .ok (.idiv, 1) := by decide +kernel
theorem dX6_period_43 : decode cX6_period 43 = .ok (.goto 4, 3) := by decide +kernel
theorem dX6_period_46 : decode cX6_period 46 = .ok (.iload_n 3, 1) := by decide +kernel
theorem dX6_period_47 : decode cX6_period 47 = .ok (.imul, 1) := by decide +kernel
theorem dX6_period_48 : decode cX6_period 48 = .ok (.istore_n 2, 1) := by decide +kernel
theorem dX6_period_49 : decode cX6_period 49 = .ok (.iinc 3 1, 3) := by decide +kernel
theorem dX6_period_52 : decode cX6_period 52 = .ok (.goto (-48), 3) := by decide +kernel
theorem dX6_period_55 : decode cX6_period 55 = .ok (.iload_n 2, 1) := by decide +kernel
theorem dX6_period_56 : decode cX6_period 56 = .ok (.ireturn, 1) := by decide +kernel
theorem dX6_isEven_0 : decode cX6_isEven 0 = .ok (.iload_n 2, 1) := by decide +kernel
theorem dX6_isEven_1 : decode cX6_isEven 1 = .ok (.lload_n 0, 1) := by decide +kernel
theorem dX6_isEven_2 : decode cX6_isEven 2 = .ok (.iload_n 2, 1) := by decide +kernel
theorem dX6_isEven_3 : decode cX6_isEven 3 = .ok (.invokestatic 40, 3) := by decide +kernel
theorem dX6_isEven_6 : decode cX6_isEven 6 = .ok (.invokestatic 43, 3) := by decide +kernel
theorem dX6_isEven_9 : decode cX6_isEven 9 = .ok (.isub, 1) := by decide +kernel
theorem dX6_isEven_10 : decode cX6_isEven 10 = .ok (.iconst 1, 1) := by decide +kernel
theorem dX6_isEven_11 : decode cX6_isEven 11 = .ok (.iand, 1) := by decide +kernel
theorem dX6_isEven_12 : decode cX6_isEven 12 = .ok (.ifCond .ne 7, 3) := by decide +kernel
theorem dX6_isEven_15 : decode cX6_isEven 15 = .ok (.iconst 1, 1) := by decide +kernel
theorem dX6_isEven_16 : decode cX6_isEven 16 = .ok (.goto 4, 3) := by decide +kernel
theorem dX6_isEven_19 : decode cX6_isEven 19 = .ok (.iconst 0, 1) := by decide +kernel
theorem dX6_isEven_20 : decode cX6_isEven 20 = .ok (.ireturn, 1) := by decide +kernel
theorem dX6_moved_0 : decode cX6_moved 0 = .ok (.iconst 0, 1) := by decide +kernel
theorem dX6_moved_1 : decode cX6_moved 1 = .ok (.istore_n 3, 1) := by decide +kernel
theorem dX6_moved_2 : decode cX6_moved 2 = .ok (.iconst 0, 1) := by decide +kernel
theorem dX6_moved_3 : decode cX6_moved 3 = .ok (.istore 4, 2) := by decide +kernel
theorem dX6_moved_5 : decode cX6_moved 5 = .ok (.iload 4, 2) := by decide +kernel
theorem dX6_moved_7 : decode cX6_moved 7 = .ok (.iload_n 2, 1) := by decide +kernel
theorem dX6_moved_8 : decode cX6_moved 8 = .ok (.if_icmp .ge 27, 3) := by decide +kernel
theorem dX6_moved_11 : decode cX6_moved 11 = .ok (.lload_n 0, 1) := by decide +kernel
theorem dX6_moved_12 : decode cX6_moved 12 = .ok (.iload 4, 2) := by decide +kernel
theorem dX6_moved_14 : decode cX6_moved 14 = .ok (.invokestatic 15, 3) := by decide +kernel
theorem dX6_moved_17 : decode cX6_moved 17 = .ok (.iload 4, 2) := by decide +kernel
theorem dX6_moved_19 : decode cX6_moved 19 = .ok (.if_icmp .eq 10, 3) := by decide +kernel
theorem dX6_moved_22 : decode cX6_moved 22 = .ok (.iload_n 3, 1) := by decide +kernel
theorem dX6_moved_23 : decode cX6_moved 23 = .ok (.iconst 1, 1) := by decide +kernel
theorem dX6_moved_24 : decode cX6_moved 24 = .ok (.iload 4, 2) := by decide +kernel
theorem dX6_moved_26 : decode cX6_moved 26 = .ok (.ishl, 1) := by decide +kernel
theorem dX6_moved_27 : decode cX6_moved 27 = .ok (.ior, 1) := by decide +kernel
theorem dX6_moved_28 : decode cX6_moved 28 = .ok (.istore_n 3, 1) := by decide +kernel
theorem dX6_moved_29 : decode cX6_moved 29 = .ok (.iinc 4 1, 3) := by decide +kernel
theorem dX6_moved_32 : decode cX6_moved 32 = .ok (.goto (-27), 3) := by decide +kernel
theorem dX6_moved_35 : decode cX6_moved 35 = .ok (.iload_n 3, 1) := by decide +kernel
theorem dX6_moved_36 : decode cX6_moved 36 = .ok (.ireturn, 1) := by decide +kernel
theorem dX6_commonDivisor_0 : decode cX6_commonDivisor 0 = .ok (.iload_n 0, 1) := by decide +kernel
theorem dX6_commonDivisor_1 : decode cX6_commonDivisor 1 = .ok (.istore_n 2, 1) := by decide +kernel
theorem dX6_commonDivisor_2 : decode cX6_commonDivisor 2 = .ok (.iload_n 1, 1) := by decide +kernel
theorem dX6_commonDivisor_3 : decode cX6_commonDivisor 3 = .ok (.istore_n 3, 1) := by decide +kernel
theorem dX6_commonDivisor_4 : decode cX6_commonDivisor 4 = .ok (.iconst 0, 1) := by decide +kernel
theorem dX6_commonDivisor_5 : decode cX6_commonDivisor 5 = .ok (.istore 4, 2) := by decide +kernel
theorem dX6_commonDivisor_7 : decode cX6_commonDivisor 7 = .ok (.iload 4, 2) := by decide +kernel
theorem dX6_commonDivisor_9 : decode cX6_commonDivisor 9 = .ok (.bipush 64, 2) := by decide +kernel
theorem dX6_commonDivisor_11 : decode cX6_commonDivisor 11 = .ok (.if_icmp .ge 23, 3) := by decide +kernel
theorem dX6_commonDivisor_14 : decode cX6_commonDivisor 14 = .ok (.iload_n 3, 1) := by decide +kernel
theorem dX6_commonDivisor_15 : decode cX6_commonDivisor 15 = .ok (.ifCond .eq 19, 3) := by decide +kernel
theorem dX6_commonDivisor_18 : decode cX6_commonDivisor 18 = .ok (.iload_n 2, 1) := by decide +kernel
theorem dX6_commonDivisor_19 : decode cX6_commonDivisor 19 = .ok (.iload_n 3, 1) := by decide +kernel
theorem dX6_commonDivisor_20 : decode cX6_commonDivisor 20 = .ok (.irem, 1) := by decide +kernel
theorem dX6_commonDivisor_21 : decode cX6_commonDivisor 21 = .ok (.istore 5, 2) := by decide +kernel
theorem dX6_commonDivisor_23 : decode cX6_commonDivisor 23 = .ok (.iload_n 3, 1) := by decide +kernel
theorem dX6_commonDivisor_24 : decode cX6_commonDivisor 24 = .ok (.istore_n 2, 1) := by decide +kernel
theorem dX6_commonDivisor_25 : decode cX6_commonDivisor 25 = .ok (.iload 5, 2) := by decide +kernel
theorem dX6_commonDivisor_27 : decode cX6_commonDivisor 27 = .ok (.istore_n 3, 1) := by decide +kernel
theorem dX6_commonDivisor_28 : decode cX6_commonDivisor 28 = .ok (.iinc 4 1, 3) := by decide +kernel
theorem dX6_commonDivisor_31 : decode cX6_commonDivisor 31 = .ok (.goto (-24), 3) := by decide +kernel
theorem dX6_commonDivisor_34 : decode cX6_commonDivisor 34 = .ok (.iload_n 2, 1) := by decide +kernel
theorem dX6_commonDivisor_35 : decode cX6_commonDivisor 35 = .ok (.ireturn, 1) := by decide +kernel
theorem dX6_fromNumber_0 : decode cX6_fromNumber 0 = .ok (.lload_n 0, 1) := by decide +kernel
theorem dX6_fromNumber_1 : decode cX6_fromNumber 1 = .ok (.lconst 0, 1) := by decide +kernel
theorem dX6_fromNumber_2 : decode cX6_fromNumber 2 = .ok (.lcmp, 1) := by decide +kernel
theorem dX6_fromNumber_3 : decode cX6_fromNumber 3 = .ok (.ifCond .lt 7, 3) := by decide +kernel
theorem dX6_fromNumber_6 : decode cX6_fromNumber 6 = .ok (.iload_n 2, 1) := by decide +kernel
theorem dX6_fromNumber_7 : decode cX6_fromNumber 7 = .ok (.ifCond .ne 7, 3) := by decide +kernel
theorem dX6_fromNumber_10 : decode cX6_fromNumber 10 = .ok (.ldc2_w 13, 3) := by decide +kernel
theorem dX6_fromNumber_13 : decode cX6_fromNumber 13 = .ok (.lreturn, 1) := by decide +kernel
theorem dX6_fromNumber_14 : decode cX6_fromNumber 14 = .ok (.lconst 0, 1) := by decide +kernel
theorem dX6_fromNumber_15 : decode cX6_fromNumber 15 = .ok (.lstore_n 3, 1) := by decide +kernel
theorem dX6_fromNumber_16 : decode cX6_fromNumber 16 = .ok (.lload_n 0, 1) := by decide +kernel
theorem dX6_fromNumber_17 : decode cX6_fromNumber 17 = .ok (.lstore 5, 2) := by decide +kernel
theorem dX6_fromNumber_19 : decode cX6_fromNumber 19 = .ok (.iconst 0, 1) := by decide +kernel
theorem dX6_fromNumber_20 : decode cX6_fromNumber 20 = .ok (.istore 7, 2) := by decide +kernel
theorem dX6_fromNumber_22 : decode cX6_fromNumber 22 = .ok (.iload_n 2, 1) := by decide +kernel
theorem dX6_fromNumber_23 : decode cX6_fromNumber 23 = .ok (.iconst 1, 1) := by decide +kernel
theorem dX6_fromNumber_24 : decode cX6_fromNumber 24 = .ok (.isub, 1) := by decide +kernel
theorem dX6_fromNumber_25 : decode cX6_fromNumber 25 = .ok (.istore 8, 2) := by decide +kernel
theorem dX6_fromNumber_27 : decode cX6_fromNumber 27 = .ok (.iload 8, 2) := by decide +kernel
theorem dX6_fromNumber_29 : decode cX6_fromNumber 29 = .ok (.ifCond .lt 69, 3) := by decide +kernel
theorem dX6_fromNumber_32 : decode cX6_fromNumber 32 = .ok (.lload 5, 2) := by decide +kernel
theorem dX6_fromNumber_34 : decode cX6_fromNumber 34 = .ok (.ldc2_w 47, 3) := by decide +kernel
theorem dX6_fromNumber_37 : decode cX6_fromNumber 37 = .ok (.lrem, 1) := by decide +kernel
theorem dX6_fromNumber_38 : decode cX6_fromNumber 38 = .ok (.l2i, 1) := by decide +kernel
theorem dX6_fromNumber_39 : decode cX6_fromNumber 39 = .ok (.istore 9, 2) := by decide +kernel
theorem dX6_fromNumber_41 : decode cX6_fromNumber 41 = .ok (.lload 5, 2) := by decide +kernel
theorem dX6_fromNumber_43 : decode cX6_fromNumber 43 = .ok (.ldc2_w 47, 3) := by decide +kernel
theorem dX6_fromNumber_46 : decode cX6_fromNumber 46 = .ok (.ldiv, 1) := by decide +kernel
theorem dX6_fromNumber_47 : decode cX6_fromNumber 47 = .ok (.lstore 5, 2) := by decide +kernel
theorem dX6_fromNumber_49 : decode cX6_fromNumber 49 = .ok (.iload 9, 2) := by decide +kernel
theorem dX6_fromNumber_51 : decode cX6_fromNumber 51 = .ok (.iload_n 2, 1) := by decide +kernel
theorem dX6_fromNumber_52 : decode cX6_fromNumber 52 = .ok (.if_icmp .ge 13, 3) := by decide +kernel
theorem dX6_fromNumber_55 : decode cX6_fromNumber 55 = .ok (.iload 7, 2) := by decide +kernel
theorem dX6_fromNumber_57 : decode cX6_fromNumber 57 = .ok (.iload 9, 2) := by decide +kernel
theorem dX6_fromNumber_59 : decode cX6_fromNumber 59 = .ok (.ishr, 1) := by decide +kernel
theorem dX6_fromNumber_60 : decode cX6_fromNumber 60 = .ok (.iconst 1, 1) := by decide +kernel
theorem dX6_fromNumber_61 : decode cX6_fromNumber 61 = .ok (.iand, 1) := by decide +kernel
theorem dX6_fromNumber_62 : decode cX6_fromNumber 62 = .ok (.ifCond .eq 7, 3) := by decide +kernel
theorem dX6_fromNumber_65 : decode cX6_fromNumber 65 = .ok (.ldc2_w 13, 3) := by decide +kernel
theorem dX6_fromNumber_68 : decode cX6_fromNumber 68 = .ok (.lreturn, 1) := by decide +kernel
theorem dX6_fromNumber_69 : decode cX6_fromNumber 69 = .ok (.iload 7, 2) := by decide +kernel
theorem dX6_fromNumber_71 : decode cX6_fromNumber 71 = .ok (.iconst 1, 1) := by decide +kernel
theorem dX6_fromNumber_72 : decode cX6_fromNumber 72 = .ok (.iload 9, 2) := by decide +kernel
theorem dX6_fromNumber_74 : decode cX6_fromNumber 74 = .ok (.ishl, 1) := by decide +kernel
theorem dX6_fromNumber_75 : decode cX6_fromNumber 75 = .ok (.ior, 1) := by decide +kernel
theorem dX6_fromNumber_76 : decode cX6_fromNumber 76 = .ok (.istore 7, 2) := by decide +kernel
theorem dX6_fromNumber_78 : decode cX6_fromNumber 78 = .ok (.lload_n 3, 1) := by decide +kernel
theorem dX6_fromNumber_79 : decode cX6_fromNumber 79 = .ok (.iload 9, 2) := by decide +kernel
theorem dX6_fromNumber_81 : decode cX6_fromNumber 81 = .ok (.i2l, 1) := by decide +kernel
theorem dX6_fromNumber_82 : decode cX6_fromNumber 82 = .ok (.bipush 36, 2) := by decide +kernel
theorem dX6_fromNumber_84 : decode cX6_fromNumber 84 = .ok (.iconst 4, 1) := by decide +kernel
theorem dX6_fromNumber_85 : decode cX6_fromNumber 85 = .ok (.iload 8, 2) := by decide +kernel
theorem dX6_fromNumber_87 : decode cX6_fromNumber 87 = .ok (.imul, 1) := by decide +kernel
theorem dX6_fromNumber_88 : decode cX6_fromNumber 88 = .ok (.isub, 1) := by decide +kernel
theorem dX6_fromNumber_89 : decode cX6_fromNumber 89 = .ok (.lshl, 1) := by decide +kernel
theorem dX6_fromNumber_90 : decode cX6_fromNumber 90 = .ok (.lor, 1) := by decide +kernel
theorem dX6_fromNumber_91 : decode cX6_fromNumber 91 = .ok (.lstore_n 3, 1) := by decide +kernel
theorem dX6_fromNumber_92 : decode cX6_fromNumber 92 = .ok (.iinc 8 (-1), 3) := by decide +kernel
theorem dX6_fromNumber_95 : decode cX6_fromNumber 95 = .ok (.goto (-68), 3) := by decide +kernel
theorem dX6_fromNumber_98 : decode cX6_fromNumber 98 = .ok (.lload 5, 2) := by decide +kernel
theorem dX6_fromNumber_100 : decode cX6_fromNumber 100 = .ok (.lconst 0, 1) := by decide +kernel
theorem dX6_fromNumber_101 : decode cX6_fromNumber 101 = .ok (.lcmp, 1) := by decide +kernel
theorem dX6_fromNumber_102 : decode cX6_fromNumber 102 = .ok (.ifCond .ne 7, 3) := by decide +kernel
theorem dX6_fromNumber_105 : decode cX6_fromNumber 105 = .ok (.lload_n 3, 1) := by decide +kernel
theorem dX6_fromNumber_106 : decode cX6_fromNumber 106 = .ok (.goto 6, 3) := by decide +kernel
theorem dX6_fromNumber_109 : decode cX6_fromNumber 109 = .ok (.ldc2_w 13, 3) := by decide +kernel
theorem dX6_fromNumber_112 : decode cX6_fromNumber 112 = .ok (.lreturn, 1) := by decide +kernel
theorem dX6_toNumber_0 : decode cX6_toNumber 0 = .ok (.lconst 0, 1) := by decide +kernel
theorem dX6_toNumber_1 : decode cX6_toNumber 1 = .ok (.lstore_n 3, 1) := by decide +kernel
theorem dX6_toNumber_2 : decode cX6_toNumber 2 = .ok (.iconst 0, 1) := by decide +kernel
theorem dX6_toNumber_3 : decode cX6_toNumber 3 = .ok (.istore 5, 2) := by decide +kernel
theorem dX6_toNumber_5 : decode cX6_toNumber 5 = .ok (.iload 5, 2) := by decide +kernel
theorem dX6_toNumber_7 : decode cX6_toNumber 7 = .ok (.iload_n 2, 1) := by decide +kernel
theorem dX6_toNumber_8 : decode cX6_toNumber 8 = .ok (.if_icmp .ge 23, 3) := by decide +kernel
theorem dX6_toNumber_11 : decode cX6_toNumber 11 = .ok (.lload_n 3, 1) := by decide +kernel
theorem dX6_toNumber_12 : decode cX6_toNumber 12 = .ok (.ldc2_w 47, 3) := by decide +kernel
theorem dX6_toNumber_15 : decode cX6_toNumber 15 = .ok (.lmul, 1) := by decide +kernel
theorem dX6_toNumber_16 : decode cX6_toNumber 16 = .ok (.lload_n 0, 1) := by decide +kernel
theorem dX6_toNumber_17 : decode cX6_toNumber 17 = .ok (.iload 5, 2) := by decide +kernel
theorem dX6_toNumber_19 : decode cX6_toNumber 19 = .ok (.invokestatic 15, 3) := by decide +kernel
theorem dX6_toNumber_22 : decode cX6_toNumber 22 = .ok (.i2l, 1) := by decide +kernel
theorem dX6_toNumber_23 : decode cX6_toNumber 23 = .ok (.ladd, 1) := by decide +kernel
theorem dX6_toNumber_24 : decode cX6_toNumber 24 = .ok (.lstore_n 3, 1) := by decide +kernel
theorem dX6_toNumber_25 : decode cX6_toNumber 25 = .ok (.iinc 5 1, 3) := by decide +kernel
theorem dX6_toNumber_28 : decode cX6_toNumber 28 = .ok (.goto (-23), 3) := by decide +kernel
theorem dX6_toNumber_31 : decode cX6_toNumber 31 = .ok (.lload_n 3, 1) := by decide +kernel
theorem dX6_toNumber_32 : decode cX6_toNumber 32 = .ok (.lreturn, 1) := by decide +kernel
theorem dX7_init_0 : decode cX7_init 0 = .ok (.aload_n 0, 1) := by decide +kernel
theorem dX7_init_1 : decode cX7_init 1 = .ok (.invokespecial 1, 3) := by decide +kernel
theorem dX7_init_4 : decode cX7_init 4 = .ok (.aload_n 0, 1) := by decide +kernel
theorem dX7_init_5 : decode cX7_init 5 = .ok (.new 7, 3) := by decide +kernel
theorem dX7_init_8 : decode cX7_init 8 = .ok (.dup, 1) := by decide +kernel
theorem dX7_init_9 : decode cX7_init 9 = .ok (.invokespecial 9, 3) := by decide +kernel
theorem dX7_init_12 : decode cX7_init 12 = .ok (.putfield 10, 3) := by decide +kernel
theorem dX7_init_15 : decode cX7_init 15 = .ok (.aload_n 0, 1) := by decide +kernel
theorem dX7_init_16 : decode cX7_init 16 = .ok (.new 16, 3) := by decide +kernel
theorem dX7_init_19 : decode cX7_init 19 = .ok (.dup, 1) := by decide +kernel
theorem dX7_init_20 : decode cX7_init 20 = .ok (.invokespecial 18, 3) := by decide +kernel
theorem dX7_init_23 : decode cX7_init 23 = .ok (.putfield 19, 3) := by decide +kernel
theorem dX7_init_26 : decode cX7_init 26 = .ok (.aload_n 0, 1) := by decide +kernel
theorem dX7_init_27 : decode cX7_init 27 = .ok (.new 23, 3) := by decide +kernel
theorem dX7_init_30 : decode cX7_init 30 = .ok (.dup, 1) := by decide +kernel
theorem dX7_init_31 : decode cX7_init 31 = .ok (.invokespecial 25, 3) := by decide +kernel
theorem dX7_init_34 : decode cX7_init 34 = .ok (.putfield 26, 3) := by decide +kernel
theorem dX7_init_37 : decode cX7_init 37 = .ok (.aload_n 0, 1) := by decide +kernel
theorem dX7_init_38 : decode cX7_init 38 = .ok (.bipush 32, 2) := by decide +kernel
theorem dX7_init_40 : decode cX7_init 40 = .ok (.newarray .byte, 2) := by decide +kernel
theorem dX7_init_42 : decode cX7_init 42 = .ok (.putfield 30, 3) := by decide +kernel
theorem dX7_init_45 : decode cX7_init 45 = .ok (.aload_n 0, 1) := by decide +kernel
theorem dX7_init_46 : decode cX7_init 46 = .ok (.iconst 0, 1) := by decide +kernel
theorem dX7_init_47 : decode cX7_init 47 = .ok (.putfield 34, 3) := by decide +kernel
theorem dX7_init_50 : decode cX7_init 50 = .ok (.aload_n 0, 1) := by decide +kernel
theorem dX7_init_51 : decode cX7_init 51 = .ok (.lconst 0, 1) := by decide +kernel
theorem dX7_init_52 : decode cX7_init 52 = .ok (.putfield 38, 3) := by decide +kernel
theorem dX7_init_55 : decode cX7_init 55 = .ok (.aload_n 0, 1) := by decide +kernel
theorem dX7_init_56 : decode cX7_init 56 = .ok (.iconst 0, 1) := by decide +kernel
theorem dX7_init_57 : decode cX7_init 57 = .ok (.putfield 42, 3) := by decide +kernel
theorem dX7_init_60 : decode cX7_init 60 = .ok (.return_, 1) := by decide +kernel
theorem dX7_status_0 : decode cX7_status 0 = .ok (.aload_n 0, 1) := by decide +kernel
theorem dX7_status_1 : decode cX7_status 1 = .ok (.getfield 42, 3) := by decide +kernel
theorem dX7_status_4 : decode cX7_status 4 = .ok (.ireturn, 1) := by decide +kernel
theorem dX7_feed_0 : decode cX7_feed 0 = .ok (.aload_n 0, 1) := by decide +kernel
theorem dX7_feed_1 : decode cX7_feed 1 = .ok (.getfield 10, 3) := by decide +kernel
theorem dX7_feed_4 : decode cX7_feed 4 = .ok (.bipush 20, 2) := by decide +kernel
theorem dX7_feed_6 : decode cX7_feed 6 = .ok (.invokevirtual 45, 3) := by decide +kernel
theorem dX7_feed_9 : decode cX7_feed 9 = .ok (.ifCond .ne 5, 3) := by decide +kernel
theorem dX7_feed_12 : decode cX7_feed 12 = .ok (.iconst (-1), 1) := by decide +kernel
theorem dX7_feed_13 : decode cX7_feed 13 = .ok (.ireturn, 1) := by decide +kernel
theorem dX7_feed_14 : decode cX7_feed 14 = .ok (.aload_n 0, 1) := by decide +kernel
theorem dX7_feed_15 : decode cX7_feed 15 = .ok (.getfield 10, 3) := by decide +kernel
theorem dX7_feed_18 : decode cX7_feed 18 = .ok (.iload_n 1, 1) := by decide +kernel
theorem dX7_feed_19 : decode cX7_feed 19 = .ok (.invokevirtual 49, 3) := by decide +kernel
theorem dX7_feed_22 : decode cX7_feed 22 = .ok (.aload_n 0, 1) := by decide +kernel
theorem dX7_feed_23 : decode cX7_feed 23 = .ok (.getfield 10, 3) := by decide +kernel
theorem dX7_feed_26 : decode cX7_feed 26 = .ok (.iload_n 2, 1) := by decide +kernel
theorem dX7_feed_27 : decode cX7_feed 27 = .ok (.invokevirtual 49, 3) := by decide +kernel
theorem dX7_feed_30 : decode cX7_feed 30 = .ok (.aload_n 0, 1) := by decide +kernel
theorem dX7_feed_31 : decode cX7_feed 31 = .ok (.getfield 10, 3) := by decide +kernel
theorem dX7_feed_34 : decode cX7_feed 34 = .ok (.iload_n 3, 1) := by decide +kernel
theorem dX7_feed_35 : decode cX7_feed 35 = .ok (.invokevirtual 49, 3) := by decide +kernel
theorem dX7_feed_38 : decode cX7_feed 38 = .ok (.aload_n 0, 1) := by decide +kernel
theorem dX7_feed_39 : decode cX7_feed 39 = .ok (.getfield 10, 3) := by decide +kernel
theorem dX7_feed_42 : decode cX7_feed 42 = .ok (.iload 4, 2) := by decide +kernel
theorem dX7_feed_44 : decode cX7_feed 44 = .ok (.invokevirtual 49, 3) := by decide +kernel
theorem dX7_feed_47 : decode cX7_feed 47 = .ok (.aload_n 0, 1) := by decide +kernel
theorem dX7_feed_48 : decode cX7_feed 48 = .ok (.getfield 10, 3) := by decide +kernel
theorem dX7_feed_51 : decode cX7_feed 51 = .ok (.iload 5, 2) := by decide +kernel
theorem dX7_feed_53 : decode cX7_feed 53 = .ok (.invokevirtual 49, 3) := by decide +kernel
theorem dX7_feed_56 : decode cX7_feed 56 = .ok (.aload_n 0, 1) := by decide +kernel
theorem dX7_feed_57 : decode cX7_feed 57 = .ok (.getfield 10, 3) := by decide +kernel
theorem dX7_feed_60 : decode cX7_feed 60 = .ok (.getfield 53, 3) := by decide +kernel
theorem dX7_feed_63 : decode cX7_feed 63 = .ok (.ireturn, 1) := by decide +kernel
theorem dX7_load_0 : decode cX7_load 0 = .ok (.iload_n 1, 1) := by decide +kernel
theorem dX7_load_1 : decode cX7_load 1 = .ok (.ifCond .lt 14, 3) := by decide +kernel
theorem dX7_load_4 : decode cX7_load 4 = .ok (.iload_n 1, 1) := by decide +kernel
theorem dX7_load_5 : decode cX7_load 5 = .ok (.aload_n 0, 1) := by decide +kernel
theorem dX7_load_6 : decode cX7_load 6 = .ok (.getfield 10, 3) := by decide +kernel
theorem dX7_load_9 : decode cX7_load 9 = .ok (.getfield 53, 3) := by decide +kernel
theorem dX7_load_12 : decode cX7_load 12 = .ok (.if_icmp .le 9, 3) := by decide +kernel
theorem dX7_load_15 : decode cX7_load 15 = .ok (.aload_n 0, 1) := by decide +kernel
theorem dX7_load_16 : decode cX7_load 16 = .ok (.iconst 1, 1) := by decide +kernel
theorem dX7_load_17 : decode cX7_load 17 = .ok (.invokevirtual 56, 3) := by decide +kernel
theorem dX7_load_20 : decode cX7_load 20 = .ok (.ireturn, 1) := by decide +kernel
theorem dX7_load_21 : decode cX7_load 21 = .ok (.aload_n 0, 1) := by decide +kernel
theorem dX7_load_22 : decode cX7_load 22 = .ok (.getfield 10, 3) := by decide +kernel
theorem dX7_load_25 : decode cX7_load 25 = .ok (.iload_n 1, 1) := by decide +kernel
theorem dX7_load_26 : decode cX7_load 26 = .ok (.invokevirtual 60, 3) := by decide +kernel
theorem dX7_load_29 : decode cX7_load 29 = .ok (.ifCond .ne 10, 3) := by decide +kernel
theorem dX7_load_32 : decode cX7_load 32 = .ok (.aload_n 0, 1) := by decide +kernel
theorem dX7_load_33 : decode cX7_load 33 = .ok (.bipush 9, 2) := by decide +kernel
theorem dX7_load_35 : decode cX7_load 35 = .ok (.invokevirtual 56, 3) := by decide +kernel
theorem dX7_load_38 : decode cX7_load 38 = .ok (.ireturn, 1) := by decide +kernel
theorem dX7_load_39 : decode cX7_load 39 = .ok (.aload_n 0, 1) := by decide +kernel
theorem dX7_load_40 : decode cX7_load 40 = .ok (.getfield 19, 3) := by decide +kernel
theorem dX7_load_43 : decode cX7_load 43 = .ok (.aload_n 0, 1) := by decide +kernel
theorem dX7_load_44 : decode cX7_load 44 = .ok (.getfield 10, 3) := by decide +kernel
theorem dX7_load_47 : decode cX7_load 47 = .ok (.getfield 63, 3) := by decide +kernel
theorem dX7_load_50 : decode cX7_load 50 = .ok (.aload_n 0, 1) := by decide +kernel
theorem dX7_load_51 : decode cX7_load 51 = .ok (.getfield 10, 3) := by decide +kernel
theorem dX7_load_54 : decode cX7_load 54 = .ok (.getfield 66, 3) := by decide +kernel
theorem dX7_load_57 : decode cX7_load 57 = .ok (.aload_n 0, 1) := by decide +kernel
theorem dX7_load_58 : decode cX7_load 58 = .ok (.getfield 10, 3) := by decide +kernel
theorem dX7_load_61 : decode cX7_load 61 = .ok (.getfield 70, 3) := by decide +kernel
theorem dX7_load_64 : decode cX7_load 64 = .ok (.invokevirtual 73, 3) := by decide +kernel
theorem dX7_load_67 : decode cX7_load 67 = .ok (.aload_n 0, 1) := by decide +kernel
theorem dX7_load_68 : decode cX7_load 68 = .ok (.aload_n 0, 1) := by decide +kernel
theorem dX7_load_69 : decode cX7_load 69 = .ok (.getfield 10, 3) := by decide +kernel
theorem dX7_load_72 : decode cX7_load 72 = .ok (.getfield 63, 3) := by decide +kernel
theorem dX7_load_75 : decode cX7_load 75 = .ok (.invokestatic 77, 3) := by decide +kernel
theorem dX7_load_78 : decode cX7_load 78 = .ok (.putfield 38, 3) := by decide +kernel
theorem dX7_load_81 : decode cX7_load 81 = .ok (.aload_n 0, 1) := by decide +kernel
theorem dX7_load_82 : decode cX7_load 82 = .ok (.getfield 26, 3) := by decide +kernel
theorem dX7_load_85 : decode cX7_load 85 = .ok (.invokevirtual 83, 3) := by decide +kernel
theorem dX7_load_88 : decode cX7_load 88 = .ok (.aload_n 0, 1) := by decide +kernel
theorem dX7_load_89 : decode cX7_load 89 = .ok (.aload_n 0, 1) := by decide +kernel
theorem dX7_load_90 : decode cX7_load 90 = .ok (.getfield 10, 3) := by decide +kernel
theorem dX7_load_93 : decode cX7_load 93 = .ok (.getfield 70, 3) := by decide +kernel
theorem dX7_load_96 : decode cX7_load 96 = .ok (.invokevirtual 86, 3) := by decide +kernel
theorem dX7_load_99 : decode cX7_load 99 = .ok (.ireturn, 1) := by decide +kernel
theorem dX7_fault_0 : decode cX7_fault 0 = .ok (.iload_n 1, 1) := by decide +kernel
theorem dX7_fault_1 : decode cX7_fault 1 = .ok (.ifCond .ne 11, 3) := by decide +kernel
theorem dX7_fault_4 : decode cX7_fault 4 = .ok (.aload_n 0, 1) := by decide +kernel
theorem dX7_fault_5 : decode cX7_fault 5 = .ok (.getfield 10, 3) := by decide +kernel
theorem dX7_fault_8 : decode cX7_fault 8 = .ok (.getfield 89, 3) := by decide +kernel
theorem dX7_fault_11 : decode cX7_fault 11 = .ok (.ireturn, 1) := by decide +kernel
theorem dX7_fault_12 : decode cX7_fault 12 = .ok (.iload_n 1, 1) := by decide +kernel
theorem dX7_fault_13 : decode cX7_fault 13 = .ok (.iconst 1, 1) := by decide +kernel
theorem dX7_fault_14 : decode cX7_fault 14 = .ok (.if_icmp .ne 13, 3) := by decide +kernel
theorem dX7_fault_17 : decode cX7_fault 17 = .ok (.aload_n 0, 1) := by decide +kernel
theorem dX7_fault_18 : decode cX7_fault 18 = .ok (.getfield 10, 3) := by decide +kernel
theorem dX7_fault_21 : decode cX7_fault 21 = .ok (.getfield 92, 3) := by decide +kernel
theorem dX7_fault_24 : decode cX7_fault 24 = .ok (.goto 4, 3) := by decide +kernel
theorem dX7_fault_27 : decode cX7_fault 27 = .ok (.iconst (-1), 1) := by decide +kernel
theorem dX7_fault_28 : decode cX7_fault 28 = .ok (.ireturn, 1) := by decide +kernel
theorem dX7_many_0 : decode cX7_many 0 = .ok (.iload_n 1, 1) := by decide +kernel
theorem dX7_many_1 : decode cX7_many 1 = .ok (.tableswitch 88 0 3 #[31, 43, 55, 67], 31) := by decide +kernel
theorem dX7_many_32 : decode cX7_many 32 = .ok (.aload_n 0, 1) := by decide +kernel
theorem dX7_many_33 : decode cX7_many 33 = .ok (.aload_n 0, 1) := by decide +kernel
theorem dX7_many_34 : decode cX7_many 34 = .ok (.getfield 19, 3) := by decide +kernel
theorem dX7_many_37 : decode cX7_many 37 = .ok (.getfield 95, 3) := by decide +kernel
theorem dX7_many_40 : decode cX7_many 40 = .ok (.invokevirtual 86, 3) := by decide +kernel
theorem dX7_many_43 : decode cX7_many 43 = .ok (.ireturn, 1) := by decide +kernel
theorem dX7_many_44 : decode cX7_many 44 = .ok (.aload_n 0, 1) := by decide +kernel
theorem dX7_many_45 : decode cX7_many 45 = .ok (.aload_n 0, 1) := by decide +kernel
theorem dX7_many_46 : decode cX7_many 46 = .ok (.getfield 19, 3) := by decide +kernel
theorem dX7_many_49 : decode cX7_many 49 = .ok (.getfield 96, 3) := by decide +kernel
theorem dX7_many_52 : decode cX7_many 52 = .ok (.invokevirtual 86, 3) := by decide +kernel
theorem dX7_many_55 : decode cX7_many 55 = .ok (.ireturn, 1) := by decide +kernel
theorem dX7_many_56 : decode cX7_many 56 = .ok (.aload_n 0, 1) := by decide +kernel
theorem dX7_many_57 : decode cX7_many 57 = .ok (.aload_n 0, 1) := by decide +kernel
theorem dX7_many_58 : decode cX7_many 58 = .ok (.getfield 26, 3) := by decide +kernel
theorem dX7_many_61 : decode cX7_many 61 = .ok (.getfield 97, 3) := by decide +kernel
theorem dX7_many_64 : decode cX7_many 64 = .ok (.invokevirtual 86, 3) := by decide +kernel
theorem dX7_many_67 : decode cX7_many 67 = .ok (.ireturn, 1) := by decide +kernel
theorem dX7_many_68 : decode cX7_many 68 = .ok (.aload_n 0, 1) := by decide +kernel
theorem dX7_many_69 : decode cX7_many 69 = .ok (.aload_n 0, 1) := by decide +kernel
theorem dX7_many_70 : decode cX7_many 70 = .ok (.aload_n 0, 1) := by decide +kernel
theorem dX7_many_71 : decode cX7_many 71 = .ok (.getfield 38, 3) := by decide +kernel
theorem dX7_many_74 : decode cX7_many 74 = .ok (.invokevirtual 100, 3) := by decide +kernel
theorem dX7_many_77 : decode cX7_many 77 = .ok (.ifCond .eq 7, 3) := by decide +kernel
theorem dX7_many_80 : decode cX7_many 80 = .ok (.iconst 1, 1) := by decide +kernel
theorem dX7_many_81 : decode cX7_many 81 = .ok (.goto 4, 3) := by decide +kernel
theorem dX7_many_84 : decode cX7_many 84 = .ok (.iconst 0, 1) := by decide +kernel
theorem dX7_many_85 : decode cX7_many 85 = .ok (.invokevirtual 86, 3) := by decide +kernel
theorem dX7_many_88 : decode cX7_many 88 = .ok (.ireturn, 1) := by decide +kernel
theorem dX7_many_89 : decode cX7_many 89 = .ok (.aload_n 0, 1) := by decide +kernel
theorem dX7_many_90 : decode cX7_many 90 = .ok (.iconst 1, 1) := by decide +kernel
theorem dX7_many_91 : decode cX7_many 91 = .ok (.invokevirtual 56, 3) := by decide +kernel
theorem dX7_many_94 : decode cX7_many 94 = .ok (.ireturn, 1) := by decide +kernel
theorem dX7_step_0 : decode cX7_step 0 = .ok (.aload_n 0, 1) := by decide +kernel
theorem dX7_step_1 : decode cX7_step 1 = .ok (.getfield 19, 3) := by decide +kernel
theorem dX7_step_4 : decode cX7_step 4 = .ok (.iload_n 1, 1) := by decide +kernel
theorem dX7_step_5 : decode cX7_step 5 = .ok (.invokevirtual 104, 3) := by decide +kernel
theorem dX7_step_8 : decode cX7_step 8 = .ok (.ifCond .ne 10, 3) := by decide +kernel
theorem dX7_step_11 : decode cX7_step 11 = .ok (.aload_n 0, 1) := by decide +kernel
theorem dX7_step_12 : decode cX7_step 12 = .ok (.iconst 2, 1) := by decide +kernel
theorem dX7_step_13 : decode cX7_step 13 = .ok (.invokevirtual 56, 3) := by decide +kernel
theorem dX7_step_16 : decode cX7_step 16 = .ok (.i2l, 1) := by decide +kernel
theorem dX7_step_17 : decode cX7_step 17 = .ok (.lreturn, 1) := by decide +kernel
theorem dX7_step_18 : decode cX7_step 18 = .ok (.aload_n 0, 1) := by decide +kernel
theorem dX7_step_19 : decode cX7_step 19 = .ok (.aload_n 0, 1) := by decide +kernel
theorem dX7_step_20 : decode cX7_step 20 = .ok (.getfield 19, 3) := by decide +kernel
theorem dX7_step_23 : decode cX7_step 23 = .ok (.iload_n 1, 1) := by decide +kernel
theorem dX7_step_24 : decode cX7_step 24 = .ok (.invokevirtual 107, 3) := by decide +kernel
theorem dX7_step_27 : decode cX7_step 27 = .ok (.invokevirtual 110, 3) := by decide +kernel
theorem dX7_step_30 : decode cX7_step 30 = .ok (.lreturn, 1) := by decide +kernel
theorem dX7_stand_0 : decode cX7_stand 0 = .ok (.aload_n 0, 1) := by decide +kernel
theorem dX7_stand_1 : decode cX7_stand 1 = .ok (.getfield 19, 3) := by decide +kernel
theorem dX7_stand_4 : decode cX7_stand 4 = .ok (.getfield 95, 3) := by decide +kernel
theorem dX7_stand_7 : decode cX7_stand 7 = .ok (.ifCond .ne 10, 3) := by decide +kernel
theorem dX7_stand_10 : decode cX7_stand 10 = .ok (.aload_n 0, 1) := by decide +kernel
theorem dX7_stand_11 : decode cX7_stand 11 = .ok (.iconst 5, 1) := by decide +kernel
theorem dX7_stand_12 : decode cX7_stand 12 = .ok (.invokevirtual 56, 3) := by decide +kernel
theorem dX7_stand_15 : decode cX7_stand 15 = .ok (.i2l, 1) := by decide +kernel
theorem dX7_stand_16 : decode cX7_stand 16 = .ok (.lreturn, 1) := by decide +kernel
theorem dX7_stand_17 : decode cX7_stand 17 = .ok (.aload_n 0, 1) := by decide +kernel
theorem dX7_stand_18 : decode cX7_stand 18 = .ok (.aload_n 0, 1) := by decide +kernel
theorem dX7_stand_19 : decode cX7_stand 19 = .ok (.getfield 38, 3) := by decide +kernel
theorem dX7_stand_22 : decode cX7_stand 22 = .ok (.invokevirtual 110, 3) := by decide +kernel
theorem dX7_stand_25 : decode cX7_stand 25 = .ok (.lreturn, 1) := by decide +kernel
theorem dX7_takes_0 : decode cX7_takes 0 = .ok (.aload_n 0, 1) := by decide +kernel
theorem dX7_takes_1 : decode cX7_takes 1 = .ok (.lload_n 1, 1) := by decide +kernel
theorem dX7_takes_2 : decode cX7_takes 2 = .ok (.invokevirtual 114, 3) := by decide +kernel
theorem dX7_takes_5 : decode cX7_takes 5 = .ok (.lstore 4, 2) := by decide +kernel
theorem dX7_takes_7 : decode cX7_takes 7 = .ok (.lload 4, 2) := by decide +kernel
theorem dX7_takes_9 : decode cX7_takes 9 = .ok (.lconst 0, 1) := by decide +kernel
theorem dX7_takes_10 : decode cX7_takes 10 = .ok (.lcmp, 1) := by decide +kernel
theorem dX7_takes_11 : decode cX7_takes 11 = .ok (.ifCond .ge 9, 3) := by decide +kernel
theorem dX7_takes_14 : decode cX7_takes 14 = .ok (.aload_n 0, 1) := by decide +kernel
theorem dX7_takes_15 : decode cX7_takes 15 = .ok (.iconst 1, 1) := by decide +kernel
theorem dX7_takes_16 : decode cX7_takes 16 = .ok (.invokevirtual 56, 3) := by decide +kernel
theorem dX7_takes_19 : decode cX7_takes 19 = .ok (.ireturn, 1) := by decide +kernel
theorem dX7_takes_20 : decode cX7_takes 20 = .ok (.aload_n 0, 1) := by decide +kernel
theorem dX7_takes_21 : decode cX7_takes 21 = .ok (.getfield 19, 3) := by decide +kernel
theorem dX7_takes_24 : decode cX7_takes 24 = .ok (.iload_n 3, 1) := by decide +kernel
theorem dX7_takes_25 : decode cX7_takes 25 = .ok (.invokevirtual 117, 3) := by decide +kernel
theorem dX7_takes_28 : decode cX7_takes 28 = .ok (.ifCond .ne 9, 3) := by decide +kernel
theorem dX7_takes_31 : decode cX7_takes 31 = .ok (.aload_n 0, 1) := by decide +kernel
theorem dX7_takes_32 : decode cX7_takes 32 = .ok (.iconst 2, 1) := by decide +kernel
theorem dX7_takes_33 : decode cX7_takes 33 = .ok (.invokevirtual 56, 3) := by decide +kernel
theorem dX7_takes_36 : decode cX7_takes 36 = .ok (.ireturn, 1) := by decide +kernel
theorem dX7_takes_37 : decode cX7_takes 37 = .ok (.aload_n 0, 1) := by decide +kernel
theorem dX7_takes_38 : decode cX7_takes 38 = .ok (.lload 4, 2) := by decide +kernel
theorem dX7_takes_40 : decode cX7_takes 40 = .ok (.iload_n 3, 1) := by decide +kernel
theorem dX7_takes_41 : decode cX7_takes 41 = .ok (.invokestatic 120, 3) := by decide +kernel
theorem dX7_takes_44 : decode cX7_takes 44 = .ok (.invokevirtual 86, 3) := by decide +kernel
theorem dX7_takes_47 : decode cX7_takes 47 = .ok (.ireturn, 1) := by decide +kernel
theorem dX7_product_0 : decode cX7_product 0 = .ok (.aload_n 0, 1) := by decide +kernel
theorem dX7_product_1 : decode cX7_product 1 = .ok (.lload_n 1, 1) := by decide +kernel
theorem dX7_product_2 : decode cX7_product 2 = .ok (.invokevirtual 114, 3) := by decide +kernel
theorem dX7_product_5 : decode cX7_product 5 = .ok (.lstore 5, 2) := by decide +kernel
theorem dX7_product_7 : decode cX7_product 7 = .ok (.aload_n 0, 1) := by decide +kernel
theorem dX7_product_8 : decode cX7_product 8 = .ok (.lload_n 3, 1) := by decide +kernel
theorem dX7_product_9 : decode cX7_product 9 = .ok (.invokevirtual 114, 3) := by decide +kernel
theorem dX7_product_12 : decode cX7_product 12 = .ok (.lstore 7, 2) := by decide +kernel
theorem dX7_product_14 : decode cX7_product 14 = .ok (.lload 5, 2) := by decide +kernel
theorem dX7_product_16 : decode cX7_product 16 = .ok (.lconst 0, 1) := by decide +kernel
theorem dX7_product_17 : decode cX7_product 17 = .ok (.lcmp, 1) := by decide +kernel
theorem dX7_product_18 : decode cX7_product 18 = .ok (.ifCond .lt 10, 3) := by decide +kernel
theorem dX7_product_21 : decode cX7_product 21 = .ok (.lload 7, 2) := by decide +kernel
theorem dX7_product_23 : decode cX7_product 23 = .ok (.lconst 0, 1) := by decide +kernel
theorem dX7_product_24 : decode cX7_product 24 = .ok (.lcmp, 1) := by decide +kernel
theorem dX7_product_25 : decode cX7_product 25 = .ok (.ifCond .ge 10, 3) := by decide +kernel
theorem dX7_product_28 : decode cX7_product 28 = .ok (.aload_n 0, 1) := by decide +kernel
theorem dX7_product_29 : decode cX7_product 29 = .ok (.iconst 1, 1) := by decide +kernel
theorem dX7_product_30 : decode cX7_product 30 = .ok (.invokevirtual 56, 3) := by decide +kernel
theorem dX7_product_33 : decode cX7_product 33 = .ok (.i2l, 1) := by decide +kernel
theorem dX7_product_34 : decode cX7_product 34 = .ok (.lreturn, 1) := by decide +kernel
theorem dX7_product_35 : decode cX7_product 35 = .ok (.aload_n 0, 1) := by decide +kernel
theorem dX7_product_36 : decode cX7_product 36 = .ok (.lload 5, 2) := by decide +kernel
theorem dX7_product_38 : decode cX7_product 38 = .ok (.lload 7, 2) := by decide +kernel
theorem dX7_product_40 : decode cX7_product 40 = .ok (.aload_n 0, 1) := by decide +kernel
theorem dX7_product_41 : decode cX7_product 41 = .ok (.getfield 19, 3) := by decide +kernel
theorem dX7_product_44 : decode cX7_product 44 = .ok (.getfield 95, 3) := by decide +kernel
theorem dX7_product_47 : decode cX7_product 47 = .ok (.invokestatic 124, 3) := by decide +kernel
theorem dX7_product_50 : decode cX7_product 50 = .ok (.invokevirtual 110, 3) := by decide +kernel
theorem dX7_product_53 : decode cX7_product 53 = .ok (.lreturn, 1) := by decide +kernel
theorem dX7_inverse_0 : decode cX7_inverse 0 = .ok (.aload_n 0, 1) := by decide +kernel
theorem dX7_inverse_1 : decode cX7_inverse 1 = .ok (.lload_n 1, 1) := by decide +kernel
theorem dX7_inverse_2 : decode cX7_inverse 2 = .ok (.invokevirtual 114, 3) := by decide +kernel
theorem dX7_inverse_5 : decode cX7_inverse 5 = .ok (.lstore_n 3, 1) := by decide +kernel
theorem dX7_inverse_6 : decode cX7_inverse 6 = .ok (.lload_n 3, 1) := by decide +kernel
theorem dX7_inverse_7 : decode cX7_inverse 7 = .ok (.lconst 0, 1) := by decide +kernel
theorem dX7_inverse_8 : decode cX7_inverse 8 = .ok (.lcmp, 1) := by decide +kernel
theorem dX7_inverse_9 : decode cX7_inverse 9 = .ok (.ifCond .ge 10, 3) := by decide +kernel
theorem dX7_inverse_12 : decode cX7_inverse 12 = .ok (.aload_n 0, 1) := by decide +kernel
theorem dX7_inverse_13 : decode cX7_inverse 13 = .ok (.iconst 1, 1) := by decide +kernel
theorem dX7_inverse_14 : decode cX7_inverse 14 = .ok (.invokevirtual 56, 3) := by decide +kernel
theorem dX7_inverse_17 : decode cX7_inverse 17 = .ok (.i2l, 1) := by decide +kernel
theorem dX7_inverse_18 : decode cX7_inverse 18 = .ok (.lreturn, 1) := by decide +kernel
theorem dX7_inverse_19 : decode cX7_inverse 19 = .ok (.aload_n 0, 1) := by decide +kernel
theorem dX7_inverse_20 : decode cX7_inverse 20 = .ok (.lload_n 3, 1) := by decide +kernel
theorem dX7_inverse_21 : decode cX7_inverse 21 = .ok (.aload_n 0, 1) := by decide +kernel
theorem dX7_inverse_22 : decode cX7_inverse 22 = .ok (.getfield 19, 3) := by decide +kernel
theorem dX7_inverse_25 : decode cX7_inverse 25 = .ok (.getfield 95, 3) := by decide +kernel
theorem dX7_inverse_28 : decode cX7_inverse 28 = .ok (.invokestatic 128, 3) := by decide +kernel
theorem dX7_inverse_31 : decode cX7_inverse 31 = .ok (.invokevirtual 110, 3) := by decide +kernel
theorem dX7_inverse_34 : decode cX7_inverse 34 = .ok (.lreturn, 1) := by decide +kernel
theorem dX7_power_0 : decode cX7_power 0 = .ok (.aload_n 0, 1) := by decide +kernel
theorem dX7_power_1 : decode cX7_power 1 = .ok (.lload_n 1, 1) := by decide +kernel
theorem dX7_power_2 : decode cX7_power 2 = .ok (.invokevirtual 114, 3) := by decide +kernel
theorem dX7_power_5 : decode cX7_power 5 = .ok (.lstore 4, 2) := by decide +kernel
theorem dX7_power_7 : decode cX7_power 7 = .ok (.lload 4, 2) := by decide +kernel
theorem dX7_power_9 : decode cX7_power 9 = .ok (.lconst 0, 1) := by decide +kernel
theorem dX7_power_10 : decode cX7_power 10 = .ok (.lcmp, 1) := by decide +kernel
theorem dX7_power_11 : decode cX7_power 11 = .ok (.ifCond .lt 17, 3) := by decide +kernel
theorem dX7_power_14 : decode cX7_power 14 = .ok (.iload_n 3, 1) := by decide +kernel
theorem dX7_power_15 : decode cX7_power 15 = .ok (.sipush (-1000), 3) := by decide +kernel
theorem dX7_power_18 : decode cX7_power 18 = .ok (.if_icmp .lt 10, 3) := by decide +kernel
theorem dX7_power_21 : decode cX7_power 21 = .ok (.iload_n 3, 1) := by decide +kernel
theorem dX7_power_22 : decode cX7_power 22 = .ok (.sipush 1000, 3) := by decide +kernel
theorem dX7_power_25 : decode cX7_power 25 = .ok (.if_icmp .le 10, 3) := by decide +kernel
theorem dX7_power_28 : decode cX7_power 28 = .ok (.aload_n 0, 1) := by decide +kernel
theorem dX7_power_29 : decode cX7_power 29 = .ok (.iconst 1, 1) := by decide +kernel
theorem dX7_power_30 : decode cX7_power 30 = .ok (.invokevirtual 56, 3) := by decide +kernel
theorem dX7_power_33 : decode cX7_power 33 = .ok (.i2l, 1) := by decide +kernel
theorem dX7_power_34 : decode cX7_power 34 = .ok (.lreturn, 1) := by decide +kernel
theorem dX7_power_35 : decode cX7_power 35 = .ok (.aload_n 0, 1) := by decide +kernel
theorem dX7_power_36 : decode cX7_power 36 = .ok (.lload 4, 2) := by decide +kernel
theorem dX7_power_38 : decode cX7_power 38 = .ok (.iload_n 3, 1) := by decide +kernel
theorem dX7_power_39 : decode cX7_power 39 = .ok (.aload_n 0, 1) := by decide +kernel
theorem dX7_power_40 : decode cX7_power 40 = .ok (.getfield 19, 3) := by decide +kernel
theorem dX7_power_43 : decode cX7_power 43 = .ok (.getfield 95, 3) := by decide +kernel
theorem dX7_power_46 : decode cX7_power 46 = .ok (.invokestatic 132, 3) := by decide +kernel
theorem dX7_power_49 : decode cX7_power 49 = .ok (.invokevirtual 110, 3) := by decide +kernel
theorem dX7_power_52 : decode cX7_power 52 = .ok (.lreturn, 1) := by decide +kernel
theorem dX7_about_0 : decode cX7_about 0 = .ok (.aload_n 0, 1) := by decide +kernel
theorem dX7_about_1 : decode cX7_about 1 = .ok (.lload_n 1, 1) := by decide +kernel
theorem dX7_about_2 : decode cX7_about 2 = .ok (.invokevirtual 114, 3) := by decide +kernel
theorem dX7_about_5 : decode cX7_about 5 = .ok (.lstore 4, 2) := by decide +kernel
theorem dX7_about_7 : decode cX7_about 7 = .ok (.lload 4, 2) := by decide +kernel
theorem dX7_about_9 : decode cX7_about 9 = .ok (.lconst 0, 1) := by decide +kernel
theorem dX7_about_10 : decode cX7_about 10 = .ok (.lcmp, 1) := by decide +kernel
theorem dX7_about_11 : decode cX7_about 11 = .ok (.ifCond .ge 9, 3) := by decide +kernel
theorem dX7_about_14 : decode cX7_about 14 = .ok (.aload_n 0, 1) := by decide +kernel
theorem dX7_about_15 : decode cX7_about 15 = .ok (.iconst 1, 1) := by decide +kernel
theorem dX7_about_16 : decode cX7_about 16 = .ok (.invokevirtual 56, 3) := by decide +kernel
theorem dX7_about_19 : decode cX7_about 19 = .ok (.ireturn, 1) := by decide +kernel
theorem dX7_about_20 : decode cX7_about 20 = .ok (.lload 4, 2) := by decide +kernel
theorem dX7_about_22 : decode cX7_about 22 = .ok (.aload_n 0, 1) := by decide +kernel
theorem dX7_about_23 : decode cX7_about 23 = .ok (.getfield 19, 3) := by decide +kernel
theorem dX7_about_26 : decode cX7_about 26 = .ok (.getfield 95, 3) := by decide +kernel
theorem dX7_about_29 : decode cX7_about 29 = .ok (.invokestatic 136, 3) := by decide +kernel
theorem dX7_about_32 : decode cX7_about 32 = .ok (.lstore 6, 2) := by decide +kernel
theorem dX7_about_34 : decode cX7_about 34 = .ok (.iload_n 3, 1) := by decide +kernel
theorem dX7_about_35 : decode cX7_about 35 = .ok (.tableswitch 105 0 4 #[33, 43, 53, 63, 88], 33) := by decide +kernel
theorem dX7_about_68 : decode cX7_about 68 = .ok (.aload_n 0, 1) := by decide +kernel
theorem dX7_about_69 : decode cX7_about 69 = .ok (.lload 6, 2) := by decide +kernel
theorem dX7_about_71 : decode cX7_about 71 = .ok (.invokestatic 139, 3) := by decide +kernel
theorem dX7_about_74 : decode cX7_about 74 = .ok (.invokevirtual 86, 3) := by decide +kernel
theorem dX7_about_77 : decode cX7_about 77 = .ok (.ireturn, 1) := by decide +kernel
theorem dX7_about_78 : decode cX7_about 78 = .ok (.aload_n 0, 1) := by decide +kernel
theorem dX7_about_79 : decode cX7_about 79 = .ok (.lload 6, 2) := by decide +kernel
theorem dX7_about_81 : decode cX7_about 81 = .ok (.invokestatic 143, 3) := by decide +kernel
theorem dX7_about_84 : decode cX7_about 84 = .ok (.invokevirtual 86, 3) := by decide +kernel
theorem dX7_about_87 : decode cX7_about 87 = .ok (.ireturn, 1) := by decide +kernel
theorem dX7_about_88 : decode cX7_about 88 = .ok (.aload_n 0, 1) := by decide +kernel
theorem dX7_about_89 : decode cX7_about 89 = .ok (.lload 6, 2) := by decide +kernel
theorem dX7_about_91 : decode cX7_about 91 = .ok (.invokestatic 146, 3) := by decide +kernel
theorem dX7_about_94 : decode cX7_about 94 = .ok (.invokevirtual 86, 3) := by decide +kernel
theorem dX7_about_97 : decode cX7_about 97 = .ok (.ireturn, 1) := by decide +kernel
theorem dX7_about_98 : decode cX7_about 98 = .ok (.aload_n 0, 1) := by decide +kernel
theorem dX7_about_99 : decode cX7_about 99 = .ok (.lload 4, 2) := by decide +kernel
theorem dX7_about_101 : decode cX7_about 101 = .ok (.aload_n 0, 1) := by decide +kernel
theorem dX7_about_102 : decode cX7_about 102 = .ok (.getfield 19, 3) := by decide +kernel
theorem dX7_about_105 : decode cX7_about 105 = .ok (.getfield 95, 3) := by decide +kernel
theorem dX7_about_108 : decode cX7_about 108 = .ok (.invokestatic 149, 3) := by decide +kernel
theorem dX7_about_111 : decode cX7_about 111 = .ok (.ifCond .eq 7, 3) := by decide +kernel
theorem dX7_about_114 : decode cX7_about 114 = .ok (.iconst 1, 1) := by decide +kernel
theorem dX7_about_115 : decode cX7_about 115 = .ok (.goto 4, 3) := by decide +kernel
theorem dX7_about_118 : decode cX7_about 118 = .ok (.iconst 0, 1) := by decide +kernel
theorem dX7_about_119 : decode cX7_about 119 = .ok (.invokevirtual 86, 3) := by decide +kernel
theorem dX7_about_122 : decode cX7_about 122 = .ok (.ireturn, 1) := by decide +kernel
theorem dX7_about_123 : decode cX7_about 123 = .ok (.aload_n 0, 1) := by decide +kernel
theorem dX7_about_124 : decode cX7_about 124 = .ok (.lload 4, 2) := by decide +kernel
theorem dX7_about_126 : decode cX7_about 126 = .ok (.aload_n 0, 1) := by decide +kernel
theorem dX7_about_127 : decode cX7_about 127 = .ok (.getfield 19, 3) := by decide +kernel
theorem dX7_about_130 : decode cX7_about 130 = .ok (.getfield 95, 3) := by decide +kernel
theorem dX7_about_133 : decode cX7_about 133 = .ok (.invokestatic 153, 3) := by decide +kernel
theorem dX7_about_136 : decode cX7_about 136 = .ok (.invokevirtual 86, 3) := by decide +kernel
theorem dX7_about_139 : decode cX7_about 139 = .ok (.ireturn, 1) := by decide +kernel
theorem dX7_about_140 : decode cX7_about 140 = .ok (.aload_n 0, 1) := by decide +kernel
theorem dX7_about_141 : decode cX7_about 141 = .ok (.iconst 1, 1) := by decide +kernel
theorem dX7_about_142 : decode cX7_about 142 = .ok (.invokevirtual 56, 3) := by decide +kernel
theorem dX7_about_145 : decode cX7_about 145 = .ok (.ireturn, 1) := by decide +kernel
theorem dX7_orbit_0 : decode cX7_orbit 0 = .ok (.aload_n 0, 1) := by decide +kernel
theorem dX7_orbit_1 : decode cX7_orbit 1 = .ok (.getfield 19, 3) := by decide +kernel
theorem dX7_orbit_4 : decode cX7_orbit 4 = .ok (.iload_n 1, 1) := by decide +kernel
theorem dX7_orbit_5 : decode cX7_orbit 5 = .ok (.invokevirtual 117, 3) := by decide +kernel
theorem dX7_orbit_8 : decode cX7_orbit 8 = .ok (.ifCond .ne 9, 3) := by decide +kernel
theorem dX7_orbit_11 : decode cX7_orbit 11 = .ok (.aload_n 0, 1) := by decide +kernel
theorem dX7_orbit_12 : decode cX7_orbit 12 = .ok (.iconst 2, 1) := by decide +kernel
theorem dX7_orbit_13 : decode cX7_orbit 13 = .ok (.invokevirtual 56, 3) := by decide +kernel
theorem dX7_orbit_16 : decode cX7_orbit 16 = .ok (.ireturn, 1) := by decide +kernel
theorem dX7_orbit_17 : decode cX7_orbit 17 = .ok (.aload_n 0, 1) := by decide +kernel
theorem dX7_orbit_18 : decode cX7_orbit 18 = .ok (.aload_n 0, 1) := by decide +kernel
theorem dX7_orbit_19 : decode cX7_orbit 19 = .ok (.getfield 19, 3) := by decide +kernel
theorem dX7_orbit_22 : decode cX7_orbit 22 = .ok (.iload_n 1, 1) := by decide +kernel
theorem dX7_orbit_23 : decode cX7_orbit 23 = .ok (.invokevirtual 156, 3) := by decide +kernel
theorem dX7_orbit_26 : decode cX7_orbit 26 = .ok (.invokevirtual 86, 3) := by decide +kernel
theorem dX7_orbit_29 : decode cX7_orbit 29 = .ok (.ireturn, 1) := by decide +kernel
theorem dX7_orbits_0 : decode cX7_orbits 0 = .ok (.aload_n 0, 1) := by decide +kernel
theorem dX7_orbits_1 : decode cX7_orbits 1 = .ok (.getfield 19, 3) := by decide +kernel
theorem dX7_orbits_4 : decode cX7_orbits 4 = .ok (.getfield 95, 3) := by decide +kernel
theorem dX7_orbits_7 : decode cX7_orbits 7 = .ok (.ifCond .ne 9, 3) := by decide +kernel
theorem dX7_orbits_10 : decode cX7_orbits 10 = .ok (.aload_n 0, 1) := by decide +kernel
theorem dX7_orbits_11 : decode cX7_orbits 11 = .ok (.iconst 5, 1) := by decide +kernel
theorem dX7_orbits_12 : decode cX7_orbits 12 = .ok (.invokevirtual 56, 3) := by decide +kernel
theorem dX7_orbits_15 : decode cX7_orbits 15 = .ok (.ireturn, 1) := by decide +kernel
theorem dX7_orbits_16 : decode cX7_orbits 16 = .ok (.aload_n 0, 1) := by decide +kernel
theorem dX7_orbits_17 : decode cX7_orbits 17 = .ok (.aload_n 0, 1) := by decide +kernel
theorem dX7_orbits_18 : decode cX7_orbits 18 = .ok (.getfield 19, 3) := by decide +kernel
theorem dX7_orbits_21 : decode cX7_orbits 21 = .ok (.invokevirtual 159, 3) := by decide +kernel
theorem dX7_orbits_24 : decode cX7_orbits 24 = .ok (.invokevirtual 86, 3) := by decide +kernel
theorem dX7_orbits_27 : decode cX7_orbits 27 = .ok (.ireturn, 1) := by decide +kernel
theorem dX7_base_0 : decode cX7_base 0 = .ok (.iload_n 1, 1) := by decide +kernel
theorem dX7_base_1 : decode cX7_base 1 = .ok (.iconst (-1), 1) := by decide +kernel
theorem dX7_base_2 : decode cX7_base 2 = .ok (.if_icmp .ge 9, 3) := by decide +kernel
theorem dX7_base_5 : decode cX7_base 5 = .ok (.aload_n 0, 1) := by decide +kernel
theorem dX7_base_6 : decode cX7_base 6 = .ok (.iconst 1, 1) := by decide +kernel
theorem dX7_base_7 : decode cX7_base 7 = .ok (.invokevirtual 56, 3) := by decide +kernel
theorem dX7_base_10 : decode cX7_base 10 = .ok (.ireturn, 1) := by decide +kernel
theorem dX7_base_11 : decode cX7_base 11 = .ok (.aload_n 0, 1) := by decide +kernel
theorem dX7_base_12 : decode cX7_base 12 = .ok (.getfield 19, 3) := by decide +kernel
theorem dX7_base_15 : decode cX7_base 15 = .ok (.getfield 95, 3) := by decide +kernel
theorem dX7_base_18 : decode cX7_base 18 = .ok (.ifCond .ne 9, 3) := by decide +kernel
theorem dX7_base_21 : decode cX7_base 21 = .ok (.aload_n 0, 1) := by decide +kernel
theorem dX7_base_22 : decode cX7_base 22 = .ok (.iconst 5, 1) := by decide +kernel
theorem dX7_base_23 : decode cX7_base 23 = .ok (.invokevirtual 56, 3) := by decide +kernel
theorem dX7_base_26 : decode cX7_base 26 = .ok (.ireturn, 1) := by decide +kernel
theorem dX7_base_27 : decode cX7_base 27 = .ok (.iload_n 1, 1) := by decide +kernel
theorem dX7_base_28 : decode cX7_base 28 = .ok (.iconst (-1), 1) := by decide +kernel
theorem dX7_base_29 : decode cX7_base 29 = .ok (.if_icmp .ne 18, 3) := by decide +kernel
theorem dX7_base_32 : decode cX7_base 32 = .ok (.aload_n 0, 1) := by decide +kernel
theorem dX7_base_33 : decode cX7_base 33 = .ok (.aload_n 0, 1) := by decide +kernel
theorem dX7_base_34 : decode cX7_base 34 = .ok (.getfield 19, 3) := by decide +kernel
theorem dX7_base_37 : decode cX7_base 37 = .ok (.getfield 163, 3) := by decide +kernel
theorem dX7_base_40 : decode cX7_base 40 = .ok (.invokevirtual 167, 3) := by decide +kernel
theorem dX7_base_43 : decode cX7_base 43 = .ok (.invokevirtual 86, 3) := by decide +kernel
theorem dX7_base_46 : decode cX7_base 46 = .ok (.ireturn, 1) := by decide +kernel
theorem dX7_base_47 : decode cX7_base 47 = .ok (.aload_n 0, 1) := by decide +kernel
theorem dX7_base_48 : decode cX7_base 48 = .ok (.getfield 19, 3) := by decide +kernel
theorem dX7_base_51 : decode cX7_base 51 = .ok (.getfield 163, 3) := by decide +kernel
theorem dX7_base_54 : decode cX7_base 54 = .ok (.iload_n 1, 1) := by decide +kernel
theorem dX7_base_55 : decode cX7_base 55 = .ok (.invokevirtual 172, 3) := by decide +kernel
theorem dX7_base_58 : decode cX7_base 58 = .ok (.istore_n 2, 1) := by decide +kernel
theorem dX7_base_59 : decode cX7_base 59 = .ok (.iload_n 2, 1) := by decide +kernel
theorem dX7_base_60 : decode cX7_base 60 = .ok (.ifCond .ge 11, 3) := by decide +kernel
theorem dX7_base_63 : decode cX7_base 63 = .ok (.aload_n 0, 1) := by decide +kernel
theorem dX7_base_64 : decode cX7_base 64 = .ok (.iconst 5, 1) := by decide +kernel
theorem dX7_base_65 : decode cX7_base 65 = .ok (.invokevirtual 56, 3) := by decide +kernel
theorem dX7_base_68 : decode cX7_base 68 = .ok (.goto 8, 3) := by decide +kernel
theorem dX7_base_71 : decode cX7_base 71 = .ok (.aload_n 0, 1) := by decide +kernel
theorem dX7_base_72 : decode cX7_base 72 = .ok (.iload_n 2, 1) := by decide +kernel
theorem dX7_base_73 : decode cX7_base 73 = .ok (.invokevirtual 86, 3) := by decide +kernel
theorem dX7_base_76 : decode cX7_base 76 = .ok (.ireturn, 1) := by decide +kernel
theorem dX7_level_0 : decode cX7_level 0 = .ok (.iload_n 1, 1) := by decide +kernel
theorem dX7_level_1 : decode cX7_level 1 = .ok (.ifCond .ge 9, 3) := by decide +kernel
theorem dX7_level_4 : decode cX7_level 4 = .ok (.aload_n 0, 1) := by decide +kernel
theorem dX7_level_5 : decode cX7_level 5 = .ok (.iconst 1, 1) := by decide +kernel
theorem dX7_level_6 : decode cX7_level 6 = .ok (.invokevirtual 56, 3) := by decide +kernel
theorem dX7_level_9 : decode cX7_level 9 = .ok (.ireturn, 1) := by decide +kernel
theorem dX7_level_10 : decode cX7_level 10 = .ok (.aload_n 0, 1) := by decide +kernel
theorem dX7_level_11 : decode cX7_level 11 = .ok (.getfield 19, 3) := by decide +kernel
theorem dX7_level_14 : decode cX7_level 14 = .ok (.getfield 95, 3) := by decide +kernel
theorem dX7_level_17 : decode cX7_level 17 = .ok (.ifCond .ne 9, 3) := by decide +kernel
theorem dX7_level_20 : decode cX7_level 20 = .ok (.aload_n 0, 1) := by decide +kernel
theorem dX7_level_21 : decode cX7_level 21 = .ok (.iconst 5, 1) := by decide +kernel
theorem dX7_level_22 : decode cX7_level 22 = .ok (.invokevirtual 56, 3) := by decide +kernel
theorem dX7_level_25 : decode cX7_level 25 = .ok (.ireturn, 1) := by decide +kernel
theorem dX7_level_26 : decode cX7_level 26 = .ok (.aload_n 0, 1) := by decide +kernel
theorem dX7_level_27 : decode cX7_level 27 = .ok (.getfield 19, 3) := by decide +kernel
theorem dX7_level_30 : decode cX7_level 30 = .ok (.getfield 163, 3) := by decide +kernel
theorem dX7_level_33 : decode cX7_level 33 = .ok (.iload_n 1, 1) := by decide +kernel
theorem dX7_level_34 : decode cX7_level 34 = .ok (.invokevirtual 172, 3) := by decide +kernel
theorem dX7_level_37 : decode cX7_level 37 = .ok (.istore_n 2, 1) := by decide +kernel
theorem dX7_level_38 : decode cX7_level 38 = .ok (.iload_n 2, 1) := by decide +kernel
theorem dX7_level_39 : decode cX7_level 39 = .ok (.ifCond .ge 11, 3) := by decide +kernel
theorem dX7_level_42 : decode cX7_level 42 = .ok (.aload_n 0, 1) := by decide +kernel
theorem dX7_level_43 : decode cX7_level 43 = .ok (.iconst 5, 1) := by decide +kernel
theorem dX7_level_44 : decode cX7_level 44 = .ok (.invokevirtual 56, 3) := by decide +kernel
theorem dX7_level_47 : decode cX7_level 47 = .ok (.goto 18, 3) := by decide +kernel
theorem dX7_level_50 : decode cX7_level 50 = .ok (.aload_n 0, 1) := by decide +kernel
theorem dX7_level_51 : decode cX7_level 51 = .ok (.aload_n 0, 1) := by decide +kernel
theorem dX7_level_52 : decode cX7_level 52 = .ok (.getfield 19, 3) := by decide +kernel
theorem dX7_level_55 : decode cX7_level 55 = .ok (.getfield 163, 3) := by decide +kernel
theorem dX7_level_58 : decode cX7_level 58 = .ok (.iload_n 2, 1) := by decide +kernel
theorem dX7_level_59 : decode cX7_level 59 = .ok (.invokevirtual 175, 3) := by decide +kernel
theorem dX7_level_62 : decode cX7_level 62 = .ok (.invokevirtual 86, 3) := by decide +kernel
theorem dX7_level_65 : decode cX7_level 65 = .ok (.ireturn, 1) := by decide +kernel
theorem dX7_order_0 : decode cX7_order 0 = .ok (.aload_n 0, 1) := by decide +kernel
theorem dX7_order_1 : decode cX7_order 1 = .ok (.getfield 19, 3) := by decide +kernel
theorem dX7_order_4 : decode cX7_order 4 = .ok (.getfield 95, 3) := by decide +kernel
theorem dX7_order_7 : decode cX7_order 7 = .ok (.ifCond .ne 9, 3) := by decide +kernel
theorem dX7_order_10 : decode cX7_order 10 = .ok (.aload_n 0, 1) := by decide +kernel
theorem dX7_order_11 : decode cX7_order 11 = .ok (.iconst 5, 1) := by decide +kernel
theorem dX7_order_12 : decode cX7_order 12 = .ok (.invokevirtual 56, 3) := by decide +kernel
theorem dX7_order_15 : decode cX7_order 15 = .ok (.ireturn, 1) := by decide +kernel
theorem dX7_order_16 : decode cX7_order 16 = .ok (.aload_n 0, 1) := by decide +kernel
theorem dX7_order_17 : decode cX7_order 17 = .ok (.aload_n 0, 1) := by decide +kernel
theorem dX7_order_18 : decode cX7_order 18 = .ok (.getfield 19, 3) := by decide +kernel
theorem dX7_order_21 : decode cX7_order 21 = .ok (.invokevirtual 178, 3) := by decide +kernel
theorem dX7_order_24 : decode cX7_order 24 = .ok (.invokevirtual 86, 3) := by decide +kernel
theorem dX7_order_27 : decode cX7_order 27 = .ok (.ireturn, 1) := by decide +kernel
theorem dX7_member_0 : decode cX7_member 0 = .ok (.aload_n 0, 1) := by decide +kernel
theorem dX7_member_1 : decode cX7_member 1 = .ok (.lload_n 1, 1) := by decide +kernel
theorem dX7_member_2 : decode cX7_member 2 = .ok (.invokevirtual 114, 3) := by decide +kernel
theorem dX7_member_5 : decode cX7_member 5 = .ok (.lstore_n 3, 1) := by decide +kernel
theorem dX7_member_6 : decode cX7_member 6 = .ok (.lload_n 3, 1) := by decide +kernel
theorem dX7_member_7 : decode cX7_member 7 = .ok (.lconst 0, 1) := by decide +kernel
theorem dX7_member_8 : decode cX7_member 8 = .ok (.lcmp, 1) := by decide +kernel
theorem dX7_member_9 : decode cX7_member 9 = .ok (.ifCond .ge 9, 3) := by decide +kernel
theorem dX7_member_12 : decode cX7_member 12 = .ok (.aload_n 0, 1) := by decide +kernel
theorem dX7_member_13 : decode cX7_member 13 = .ok (.iconst 1, 1) := by decide +kernel
theorem dX7_member_14 : decode cX7_member 14 = .ok (.invokevirtual 56, 3) := by decide +kernel
theorem dX7_member_17 : decode cX7_member 17 = .ok (.ireturn, 1) := by decide +kernel
theorem dX7_member_18 : decode cX7_member 18 = .ok (.aload_n 0, 1) := by decide +kernel
theorem dX7_member_19 : decode cX7_member 19 = .ok (.aload_n 0, 1) := by decide +kernel
theorem dX7_member_20 : decode cX7_member 20 = .ok (.getfield 19, 3) := by decide +kernel
theorem dX7_member_23 : decode cX7_member 23 = .ok (.getfield 163, 3) := by decide +kernel
theorem dX7_member_26 : decode cX7_member 26 = .ok (.lload_n 3, 1) := by decide +kernel
theorem dX7_member_27 : decode cX7_member 27 = .ok (.invokevirtual 181, 3) := by decide +kernel
theorem dX7_member_30 : decode cX7_member 30 = .ok (.ifCond .eq 7, 3) := by decide +kernel
theorem dX7_member_33 : decode cX7_member 33 = .ok (.iconst 1, 1) := by decide +kernel
theorem dX7_member_34 : decode cX7_member 34 = .ok (.goto 4, 3) := by decide +kernel
theorem dX7_member_37 : decode cX7_member 37 = .ok (.iconst 0, 1) := by decide +kernel
theorem dX7_member_38 : decode cX7_member 38 = .ok (.invokevirtual 86, 3) := by decide +kernel
theorem dX7_member_41 : decode cX7_member 41 = .ok (.ireturn, 1) := by decide +kernel
theorem dX7_followed_0 : decode cX7_followed 0 = .ok (.aload_n 0, 1) := by decide +kernel
theorem dX7_followed_1 : decode cX7_followed 1 = .ok (.lload_n 1, 1) := by decide +kernel
theorem dX7_followed_2 : decode cX7_followed 2 = .ok (.invokevirtual 114, 3) := by decide +kernel
theorem dX7_followed_5 : decode cX7_followed 5 = .ok (.lstore_n 3, 1) := by decide +kernel
theorem dX7_followed_6 : decode cX7_followed 6 = .ok (.lload_n 3, 1) := by decide +kernel
theorem dX7_followed_7 : decode cX7_followed 7 = .ok (.lconst 0, 1) := by decide +kernel
theorem dX7_followed_8 : decode cX7_followed 8 = .ok (.lcmp, 1) := by decide +kernel
theorem dX7_followed_9 : decode cX7_followed 9 = .ok (.ifCond .ge 9, 3) := by decide +kernel
theorem dX7_followed_12 : decode cX7_followed 12 = .ok (.aload_n 0, 1) := by decide +kernel
theorem dX7_followed_13 : decode cX7_followed 13 = .ok (.iconst 1, 1) := by decide +kernel
theorem dX7_followed_14 : decode cX7_followed 14 = .ok (.invokevirtual 56, 3) := by decide +kernel
theorem dX7_followed_17 : decode cX7_followed 17 = .ok (.ireturn, 1) := by decide +kernel
theorem dX7_followed_18 : decode cX7_followed 18 = .ok (.aload_n 0, 1) := by decide +kernel
theorem dX7_followed_19 : decode cX7_followed 19 = .ok (.aload_n 0, 1) := by decide +kernel
theorem dX7_followed_20 : decode cX7_followed 20 = .ok (.getfield 19, 3) := by decide +kernel
theorem dX7_followed_23 : decode cX7_followed 23 = .ok (.getfield 163, 3) := by decide +kernel
theorem dX7_followed_26 : decode cX7_followed 26 = .ok (.lload_n 3, 1) := by decide +kernel
theorem dX7_followed_27 : decode cX7_followed 27 = .ok (.invokevirtual 184, 3) := by decide +kernel
theorem dX7_followed_30 : decode cX7_followed 30 = .ok (.invokevirtual 86, 3) := by decide +kernel
theorem dX7_followed_33 : decode cX7_followed 33 = .ok (.ireturn, 1) := by decide +kernel
theorem dX7_nth_0 : decode cX7_nth 0 = .ok (.iload_n 1, 1) := by decide +kernel
theorem dX7_nth_1 : decode cX7_nth 1 = .ok (.ifCond .ge 10, 3) := by decide +kernel
theorem dX7_nth_4 : decode cX7_nth 4 = .ok (.aload_n 0, 1) := by decide +kernel
theorem dX7_nth_5 : decode cX7_nth 5 = .ok (.iconst 1, 1) := by decide +kernel
theorem dX7_nth_6 : decode cX7_nth 6 = .ok (.invokevirtual 56, 3) := by decide +kernel
theorem dX7_nth_9 : decode cX7_nth 9 = .ok (.i2l, 1) := by decide +kernel
theorem dX7_nth_10 : decode cX7_nth 10 = .ok (.lreturn, 1) := by decide +kernel
theorem dX7_nth_11 : decode cX7_nth 11 = .ok (.aload_n 0, 1) := by decide +kernel
theorem dX7_nth_12 : decode cX7_nth 12 = .ok (.getfield 19, 3) := by decide +kernel
theorem dX7_nth_15 : decode cX7_nth 15 = .ok (.getfield 95, 3) := by decide +kernel
theorem dX7_nth_18 : decode cX7_nth 18 = .ok (.ifCond .eq 14, 3) := by decide +kernel
theorem dX7_nth_21 : decode cX7_nth 21 = .ok (.iload_n 1, 1) := by decide +kernel
theorem dX7_nth_22 : decode cX7_nth 22 = .ok (.aload_n 0, 1) := by decide +kernel
theorem dX7_nth_23 : decode cX7_nth 23 = .ok (.getfield 19, 3) := by decide +kernel
theorem dX7_nth_26 : decode cX7_nth 26 = .ok (.invokevirtual 178, 3) := by decide +kernel
theorem dX7_nth_29 : decode cX7_nth 29 = .ok (.if_icmp .lt 10, 3) := by decide +kernel
theorem dX7_nth_32 : decode cX7_nth 32 = .ok (.aload_n 0, 1) := by decide +kernel
theorem dX7_nth_33 : decode cX7_nth 33 = .ok (.iconst 5, 1) := by decide +kernel
theorem dX7_nth_34 : decode cX7_nth 34 = .ok (.invokevirtual 56, 3) := by decide +kernel
theorem dX7_nth_37 : decode cX7_nth 37 = .ok (.i2l, 1) := by decide +kernel
theorem dX7_nth_38 : decode cX7_nth 38 = .ok (.lreturn, 1) := by decide +kernel
theorem dX7_nth_39 : decode cX7_nth 39 = .ok (.aload_n 0, 1) := by decide +kernel
theorem dX7_nth_40 : decode cX7_nth 40 = .ok (.aload_n 0, 1) := by decide +kernel
theorem dX7_nth_41 : decode cX7_nth 41 = .ok (.getfield 19, 3) := by decide +kernel
theorem dX7_nth_44 : decode cX7_nth 44 = .ok (.getfield 163, 3) := by decide +kernel
theorem dX7_nth_47 : decode cX7_nth 47 = .ok (.iload_n 1, 1) := by decide +kernel
theorem dX7_nth_48 : decode cX7_nth 48 = .ok (.invokevirtual 187, 3) := by decide +kernel
theorem dX7_nth_51 : decode cX7_nth 51 = .ok (.invokevirtual 110, 3) := by decide +kernel
theorem dX7_nth_54 : decode cX7_nth 54 = .ok (.lreturn, 1) := by decide +kernel
theorem dX7_rank_0 : decode cX7_rank 0 = .ok (.aload_n 0, 1) := by decide +kernel
theorem dX7_rank_1 : decode cX7_rank 1 = .ok (.lload_n 1, 1) := by decide +kernel
theorem dX7_rank_2 : decode cX7_rank 2 = .ok (.invokevirtual 114, 3) := by decide +kernel
theorem dX7_rank_5 : decode cX7_rank 5 = .ok (.lstore_n 3, 1) := by decide +kernel
theorem dX7_rank_6 : decode cX7_rank 6 = .ok (.lload_n 3, 1) := by decide +kernel
theorem dX7_rank_7 : decode cX7_rank 7 = .ok (.lconst 0, 1) := by decide +kernel
theorem dX7_rank_8 : decode cX7_rank 8 = .ok (.lcmp, 1) := by decide +kernel
theorem dX7_rank_9 : decode cX7_rank 9 = .ok (.ifCond .ge 9, 3) := by decide +kernel
theorem dX7_rank_12 : decode cX7_rank 12 = .ok (.aload_n 0, 1) := by decide +kernel
theorem dX7_rank_13 : decode cX7_rank 13 = .ok (.iconst 1, 1) := by decide +kernel
theorem dX7_rank_14 : decode cX7_rank 14 = .ok (.invokevirtual 56, 3) := by decide +kernel
theorem dX7_rank_17 : decode cX7_rank 17 = .ok (.ireturn, 1) := by decide +kernel
theorem dX7_rank_18 : decode cX7_rank 18 = .ok (.aload_n 0, 1) := by decide +kernel
theorem dX7_rank_19 : decode cX7_rank 19 = .ok (.getfield 19, 3) := by decide +kernel
theorem dX7_rank_22 : decode cX7_rank 22 = .ok (.getfield 163, 3) := by decide +kernel
theorem dX7_rank_25 : decode cX7_rank 25 = .ok (.lload_n 3, 1) := by decide +kernel
theorem dX7_rank_26 : decode cX7_rank 26 = .ok (.invokevirtual 190, 3) := by decide +kernel
theorem dX7_rank_29 : decode cX7_rank 29 = .ok (.istore 5, 2) := by decide +kernel
theorem dX7_rank_31 : decode cX7_rank 31 = .ok (.iload 5, 2) := by decide +kernel
theorem dX7_rank_33 : decode cX7_rank 33 = .ok (.ifCond .ge 12, 3) := by decide +kernel
theorem dX7_rank_36 : decode cX7_rank 36 = .ok (.aload_n 0, 1) := by decide +kernel
theorem dX7_rank_37 : decode cX7_rank 37 = .ok (.bipush 6, 2) := by decide +kernel
theorem dX7_rank_39 : decode cX7_rank 39 = .ok (.invokevirtual 56, 3) := by decide +kernel
theorem dX7_rank_42 : decode cX7_rank 42 = .ok (.goto 9, 3) := by decide +kernel
theorem dX7_rank_45 : decode cX7_rank 45 = .ok (.aload_n 0, 1) := by decide +kernel
theorem dX7_rank_46 : decode cX7_rank 46 = .ok (.iload 5, 2) := by decide +kernel
theorem dX7_rank_48 : decode cX7_rank 48 = .ok (.invokevirtual 86, 3) := by decide +kernel
theorem dX7_rank_51 : decode cX7_rank 51 = .ok (.ireturn, 1) := by decide +kernel
theorem dX7_way_0 : decode cX7_way 0 = .ok (.aload_n 0, 1) := by decide +kernel
theorem dX7_way_1 : decode cX7_way 1 = .ok (.lload_n 1, 1) := by decide +kernel
theorem dX7_way_2 : decode cX7_way 2 = .ok (.invokevirtual 114, 3) := by decide +kernel
theorem dX7_way_5 : decode cX7_way 5 = .ok (.lstore 4, 2) := by decide +kernel
theorem dX7_way_7 : decode cX7_way 7 = .ok (.lload 4, 2) := by decide +kernel
theorem dX7_way_9 : decode cX7_way 9 = .ok (.lconst 0, 1) := by decide +kernel
theorem dX7_way_10 : decode cX7_way 10 = .ok (.lcmp, 1) := by decide +kernel
theorem dX7_way_11 : decode cX7_way 11 = .ok (.ifCond .lt 8, 3) := by decide +kernel
theorem dX7_way_14 : decode cX7_way 14 = .ok (.iload_n 3, 1) := by decide +kernel
theorem dX7_way_15 : decode cX7_way 15 = .ok (.iconst (-1), 1) := by decide +kernel
theorem dX7_way_16 : decode cX7_way 16 = .ok (.if_icmp .ge 9, 3) := by decide +kernel
theorem dX7_way_19 : decode cX7_way 19 = .ok (.aload_n 0, 1) := by decide +kernel
theorem dX7_way_20 : decode cX7_way 20 = .ok (.iconst 1, 1) := by decide +kernel
theorem dX7_way_21 : decode cX7_way 21 = .ok (.invokevirtual 56, 3) := by decide +kernel
theorem dX7_way_24 : decode cX7_way 24 = .ok (.ireturn, 1) := by decide +kernel
theorem dX7_way_25 : decode cX7_way 25 = .ok (.aload_n 0, 1) := by decide +kernel
theorem dX7_way_26 : decode cX7_way 26 = .ok (.lload 4, 2) := by decide +kernel
theorem dX7_way_28 : decode cX7_way 28 = .ok (.iload_n 3, 1) := by decide +kernel
theorem dX7_way_29 : decode cX7_way 29 = .ok (.invokevirtual 193, 3) := by decide +kernel
theorem dX7_way_32 : decode cX7_way 32 = .ok (.ireturn, 1) := by decide +kernel
theorem dX7_deep_0 : decode cX7_deep 0 = .ok (.iload_n 1, 1) := by decide +kernel
theorem dX7_deep_1 : decode cX7_deep 1 = .ok (.ifCond .ge 9, 3) := by decide +kernel
theorem dX7_deep_4 : decode cX7_deep 4 = .ok (.aload_n 0, 1) := by decide +kernel
theorem dX7_deep_5 : decode cX7_deep 5 = .ok (.iconst 1, 1) := by decide +kernel
theorem dX7_deep_6 : decode cX7_deep 6 = .ok (.invokevirtual 56, 3) := by decide +kernel
theorem dX7_deep_9 : decode cX7_deep 9 = .ok (.ireturn, 1) := by decide +kernel
theorem dX7_deep_10 : decode cX7_deep 10 = .ok (.aload_n 0, 1) := by decide +kernel
theorem dX7_deep_11 : decode cX7_deep 11 = .ok (.invokevirtual 196, 3) := by decide +kernel
theorem dX7_deep_14 : decode cX7_deep 14 = .ok (.istore_n 2, 1) := by decide +kernel
theorem dX7_deep_15 : decode cX7_deep 15 = .ok (.iload_n 2, 1) := by decide +kernel
theorem dX7_deep_16 : decode cX7_deep 16 = .ok (.ifCond .eq 9, 3) := by decide +kernel
theorem dX7_deep_19 : decode cX7_deep 19 = .ok (.aload_n 0, 1) := by decide +kernel
theorem dX7_deep_20 : decode cX7_deep 20 = .ok (.iload_n 2, 1) := by decide +kernel
theorem dX7_deep_21 : decode cX7_deep 21 = .ok (.invokevirtual 56, 3) := by decide +kernel
theorem dX7_deep_24 : decode cX7_deep 24 = .ok (.ireturn, 1) := by decide +kernel
theorem dX7_deep_25 : decode cX7_deep 25 = .ok (.aload_n 0, 1) := by decide +kernel
theorem dX7_deep_26 : decode cX7_deep 26 = .ok (.getfield 19, 3) := by decide +kernel
theorem dX7_deep_29 : decode cX7_deep 29 = .ok (.invokevirtual 199, 3) := by decide +kernel
theorem dX7_deep_32 : decode cX7_deep 32 = .ok (.iload_n 1, 1) := by decide +kernel
theorem dX7_deep_33 : decode cX7_deep 33 = .ok (.invokevirtual 203, 3) := by decide +kernel
theorem dX7_deep_36 : decode cX7_deep 36 = .ok (.istore_n 3, 1) := by decide +kernel
theorem dX7_deep_37 : decode cX7_deep 37 = .ok (.iload_n 3, 1) := by decide +kernel
theorem dX7_deep_38 : decode cX7_deep 38 = .ok (.ifCond .ne 11, 3) := by decide +kernel
theorem dX7_deep_41 : decode cX7_deep 41 = .ok (.aload_n 0, 1) := by decide +kernel
theorem dX7_deep_42 : decode cX7_deep 42 = .ok (.iconst 5, 1) := by decide +kernel
theorem dX7_deep_43 : decode cX7_deep 43 = .ok (.invokevirtual 56, 3) := by decide +kernel
theorem dX7_deep_46 : decode cX7_deep 46 = .ok (.goto 8, 3) := by decide +kernel
theorem dX7_deep_49 : decode cX7_deep 49 = .ok (.aload_n 0, 1) := by decide +kernel
theorem dX7_deep_50 : decode cX7_deep 50 = .ok (.iload_n 3, 1) := by decide +kernel
theorem dX7_deep_51 : decode cX7_deep 51 = .ok (.invokevirtual 86, 3) := by decide +kernel
theorem dX7_deep_54 : decode cX7_deep 54 = .ok (.ireturn, 1) := by decide +kernel
theorem dX7_deepest_0 : decode cX7_deepest 0 = .ok (.iload_n 1, 1) := by decide +kernel
theorem dX7_deepest_1 : decode cX7_deepest 1 = .ok (.ifCond .lt 8, 3) := by decide +kernel
theorem dX7_deepest_4 : decode cX7_deepest 4 = .ok (.iload_n 1, 1) := by decide +kernel
theorem dX7_deepest_5 : decode cX7_deepest 5 = .ok (.iconst 1, 1) := by decide +kernel
theorem dX7_deepest_6 : decode cX7_deepest 6 = .ok (.if_icmp .le 9, 3) := by decide +kernel
theorem dX7_deepest_9 : decode cX7_deepest 9 = .ok (.aload_n 0, 1) := by decide +kernel
theorem dX7_deepest_10 : decode cX7_deepest 10 = .ok (.iconst 1, 1) := by decide +kernel
theorem dX7_deepest_11 : decode cX7_deepest 11 = .ok (.invokevirtual 56, 3) := by decide +kernel
theorem dX7_deepest_14 : decode cX7_deepest 14 = .ok (.ireturn, 1) := by decide +kernel
theorem dX7_deepest_15 : decode cX7_deepest 15 = .ok (.aload_n 0, 1) := by decide +kernel
theorem dX7_deepest_16 : decode cX7_deepest 16 = .ok (.invokevirtual 196, 3) := by decide +kernel
theorem dX7_deepest_19 : decode cX7_deepest 19 = .ok (.istore_n 2, 1) := by decide +kernel
theorem dX7_deepest_20 : decode cX7_deepest 20 = .ok (.iload_n 2, 1) := by decide +kernel
theorem dX7_deepest_21 : decode cX7_deepest 21 = .ok (.ifCond .eq 9, 3) := by decide +kernel
theorem dX7_deepest_24 : decode cX7_deepest 24 = .ok (.aload_n 0, 1) := by decide +kernel
theorem dX7_deepest_25 : decode cX7_deepest 25 = .ok (.iload_n 2, 1) := by decide +kernel
theorem dX7_deepest_26 : decode cX7_deepest 26 = .ok (.invokevirtual 56, 3) := by decide +kernel
theorem dX7_deepest_29 : decode cX7_deepest 29 = .ok (.ireturn, 1) := by decide +kernel
theorem dX7_deepest_30 : decode cX7_deepest 30 = .ok (.aload_n 0, 1) := by decide +kernel
theorem dX7_deepest_31 : decode cX7_deepest 31 = .ok (.getfield 19, 3) := by decide +kernel
theorem dX7_deepest_34 : decode cX7_deepest 34 = .ok (.invokevirtual 199, 3) := by decide +kernel
theorem dX7_deepest_37 : decode cX7_deepest 37 = .ok (.astore_n 3, 1) := by decide +kernel
theorem dX7_deepest_38 : decode cX7_deepest 38 = .ok (.aload_n 0, 1) := by decide +kernel
theorem dX7_deepest_39 : decode cX7_deepest 39 = .ok (.iload_n 1, 1) := by decide +kernel
theorem dX7_deepest_40 : decode cX7_deepest 40 = .ok (.ifCond .ne 10, 3) := by decide +kernel
theorem dX7_deepest_43 : decode cX7_deepest 43 = .ok (.aload_n 3, 1) := by decide +kernel
theorem dX7_deepest_44 : decode cX7_deepest 44 = .ok (.getfield 208, 3) := by decide +kernel
theorem dX7_deepest_47 : decode cX7_deepest 47 = .ok (.goto 11, 3) := by decide +kernel
theorem dX7_deepest_50 : decode cX7_deepest 50 = .ok (.aload_n 3, 1) := by decide +kernel
theorem dX7_deepest_51 : decode cX7_deepest 51 = .ok (.aload_n 3, 1) := by decide +kernel
theorem dX7_deepest_52 : decode cX7_deepest 52 = .ok (.getfield 208, 3) := by decide +kernel
theorem dX7_deepest_55 : decode cX7_deepest 55 = .ok (.invokevirtual 211, 3) := by decide +kernel
theorem dX7_deepest_58 : decode cX7_deepest 58 = .ok (.invokevirtual 86, 3) := by decide +kernel
