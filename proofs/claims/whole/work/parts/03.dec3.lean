theorem dX7_deepest_61 : decode cX7_deepest 61 = .ok (.ireturn, 1) := by decide +kernel
theorem dX7_mean_0 : decode cX7_mean 0 = .ok (.iload_n 1, 1) := by decide +kernel
theorem dX7_mean_1 : decode cX7_mean 1 = .ok (.ifCond .lt 8, 3) := by decide +kernel
theorem dX7_mean_4 : decode cX7_mean 4 = .ok (.iload_n 1, 1) := by decide +kernel
theorem dX7_mean_5 : decode cX7_mean 5 = .ok (.iconst 1, 1) := by decide +kernel
theorem dX7_mean_6 : decode cX7_mean 6 = .ok (.if_icmp .le 9, 3) := by decide +kernel
theorem dX7_mean_9 : decode cX7_mean 9 = .ok (.aload_n 0, 1) := by decide +kernel
theorem dX7_mean_10 : decode cX7_mean 10 = .ok (.iconst 1, 1) := by decide +kernel
theorem dX7_mean_11 : decode cX7_mean 11 = .ok (.invokevirtual 56, 3) := by decide +kernel
theorem dX7_mean_14 : decode cX7_mean 14 = .ok (.ireturn, 1) := by decide +kernel
theorem dX7_mean_15 : decode cX7_mean 15 = .ok (.aload_n 0, 1) := by decide +kernel
theorem dX7_mean_16 : decode cX7_mean 16 = .ok (.invokevirtual 196, 3) := by decide +kernel
theorem dX7_mean_19 : decode cX7_mean 19 = .ok (.istore_n 2, 1) := by decide +kernel
theorem dX7_mean_20 : decode cX7_mean 20 = .ok (.iload_n 2, 1) := by decide +kernel
theorem dX7_mean_21 : decode cX7_mean 21 = .ok (.ifCond .eq 9, 3) := by decide +kernel
theorem dX7_mean_24 : decode cX7_mean 24 = .ok (.aload_n 0, 1) := by decide +kernel
theorem dX7_mean_25 : decode cX7_mean 25 = .ok (.iload_n 2, 1) := by decide +kernel
theorem dX7_mean_26 : decode cX7_mean 26 = .ok (.invokevirtual 56, 3) := by decide +kernel
theorem dX7_mean_29 : decode cX7_mean 29 = .ok (.ireturn, 1) := by decide +kernel
theorem dX7_mean_30 : decode cX7_mean 30 = .ok (.aload_n 0, 1) := by decide +kernel
theorem dX7_mean_31 : decode cX7_mean 31 = .ok (.getfield 19, 3) := by decide +kernel
theorem dX7_mean_34 : decode cX7_mean 34 = .ok (.invokevirtual 199, 3) := by decide +kernel
theorem dX7_mean_37 : decode cX7_mean 37 = .ok (.astore_n 3, 1) := by decide +kernel
theorem dX7_mean_38 : decode cX7_mean 38 = .ok (.aload_n 3, 1) := by decide +kernel
theorem dX7_mean_39 : decode cX7_mean 39 = .ok (.invokevirtual 214, 3) := by decide +kernel
theorem dX7_mean_42 : decode cX7_mean 42 = .ok (.istore 4, 2) := by decide +kernel
theorem dX7_mean_44 : decode cX7_mean 44 = .ok (.iload 4, 2) := by decide +kernel
theorem dX7_mean_46 : decode cX7_mean 46 = .ok (.aload_n 3, 1) := by decide +kernel
theorem dX7_mean_47 : decode cX7_mean 47 = .ok (.getfield 217, 3) := by decide +kernel
theorem dX7_mean_50 : decode cX7_mean 50 = .ok (.invokestatic 220, 3) := by decide +kernel
theorem dX7_mean_53 : decode cX7_mean 53 = .ok (.istore 5, 2) := by decide +kernel
theorem dX7_mean_55 : decode cX7_mean 55 = .ok (.iload 5, 2) := by decide +kernel
theorem dX7_mean_57 : decode cX7_mean 57 = .ok (.iconst 1, 1) := by decide +kernel
theorem dX7_mean_58 : decode cX7_mean 58 = .ok (.if_icmp .ge 9, 3) := by decide +kernel
theorem dX7_mean_61 : decode cX7_mean 61 = .ok (.aload_n 0, 1) := by decide +kernel
theorem dX7_mean_62 : decode cX7_mean 62 = .ok (.iconst 5, 1) := by decide +kernel
theorem dX7_mean_63 : decode cX7_mean 63 = .ok (.invokevirtual 56, 3) := by decide +kernel
theorem dX7_mean_66 : decode cX7_mean 66 = .ok (.ireturn, 1) := by decide +kernel
theorem dX7_mean_67 : decode cX7_mean 67 = .ok (.aload_n 0, 1) := by decide +kernel
theorem dX7_mean_68 : decode cX7_mean 68 = .ok (.iload_n 1, 1) := by decide +kernel
theorem dX7_mean_69 : decode cX7_mean 69 = .ok (.ifCond .ne 8, 3) := by decide +kernel
theorem dX7_mean_72 : decode cX7_mean 72 = .ok (.iload 4, 2) := by decide +kernel
theorem dX7_mean_74 : decode cX7_mean 74 = .ok (.goto 7, 3) := by decide +kernel
theorem dX7_mean_77 : decode cX7_mean 77 = .ok (.aload_n 3, 1) := by decide +kernel
theorem dX7_mean_78 : decode cX7_mean 78 = .ok (.getfield 217, 3) := by decide +kernel
theorem dX7_mean_81 : decode cX7_mean 81 = .ok (.iload 5, 2) := by decide +kernel
theorem dX7_mean_83 : decode cX7_mean 83 = .ok (.idiv, 1) := by decide +kernel
theorem dX7_mean_84 : decode cX7_mean 84 = .ok (.invokevirtual 86, 3) := by decide +kernel
theorem dX7_mean_87 : decode cX7_mean 87 = .ok (.ireturn, 1) := by decide +kernel
theorem dX7_nearer_0 : decode cX7_nearer 0 = .ok (.aload_n 0, 1) := by decide +kernel
theorem dX7_nearer_1 : decode cX7_nearer 1 = .ok (.invokevirtual 196, 3) := by decide +kernel
theorem dX7_nearer_4 : decode cX7_nearer 4 = .ok (.istore_n 1, 1) := by decide +kernel
theorem dX7_nearer_5 : decode cX7_nearer 5 = .ok (.iload_n 1, 1) := by decide +kernel
theorem dX7_nearer_6 : decode cX7_nearer 6 = .ok (.ifCond .eq 9, 3) := by decide +kernel
theorem dX7_nearer_9 : decode cX7_nearer 9 = .ok (.aload_n 0, 1) := by decide +kernel
theorem dX7_nearer_10 : decode cX7_nearer 10 = .ok (.iload_n 1, 1) := by decide +kernel
theorem dX7_nearer_11 : decode cX7_nearer 11 = .ok (.invokevirtual 56, 3) := by decide +kernel
theorem dX7_nearer_14 : decode cX7_nearer 14 = .ok (.ireturn, 1) := by decide +kernel
theorem dX7_nearer_15 : decode cX7_nearer 15 = .ok (.aload_n 0, 1) := by decide +kernel
theorem dX7_nearer_16 : decode cX7_nearer 16 = .ok (.getfield 19, 3) := by decide +kernel
theorem dX7_nearer_19 : decode cX7_nearer 19 = .ok (.invokevirtual 199, 3) := by decide +kernel
theorem dX7_nearer_22 : decode cX7_nearer 22 = .ok (.astore_n 2, 1) := by decide +kernel
theorem dX7_nearer_23 : decode cX7_nearer 23 = .ok (.aload_n 2, 1) := by decide +kernel
theorem dX7_nearer_24 : decode cX7_nearer 24 = .ok (.aload_n 0, 1) := by decide +kernel
theorem dX7_nearer_25 : decode cX7_nearer 25 = .ok (.getfield 38, 3) := by decide +kernel
theorem dX7_nearer_28 : decode cX7_nearer 28 = .ok (.invokevirtual 224, 3) := by decide +kernel
theorem dX7_nearer_31 : decode cX7_nearer 31 = .ok (.istore_n 3, 1) := by decide +kernel
theorem dX7_nearer_32 : decode cX7_nearer 32 = .ok (.iload_n 3, 1) := by decide +kernel
theorem dX7_nearer_33 : decode cX7_nearer 33 = .ok (.ifCond .ge 12, 3) := by decide +kernel
theorem dX7_nearer_36 : decode cX7_nearer 36 = .ok (.aload_n 0, 1) := by decide +kernel
theorem dX7_nearer_37 : decode cX7_nearer 37 = .ok (.bipush 6, 2) := by decide +kernel
theorem dX7_nearer_39 : decode cX7_nearer 39 = .ok (.invokevirtual 56, 3) := by decide +kernel
theorem dX7_nearer_42 : decode cX7_nearer 42 = .ok (.goto 12, 3) := by decide +kernel
theorem dX7_nearer_45 : decode cX7_nearer 45 = .ok (.aload_n 0, 1) := by decide +kernel
theorem dX7_nearer_46 : decode cX7_nearer 46 = .ok (.aload_n 2, 1) := by decide +kernel
theorem dX7_nearer_47 : decode cX7_nearer 47 = .ok (.iload_n 3, 1) := by decide +kernel
theorem dX7_nearer_48 : decode cX7_nearer 48 = .ok (.invokevirtual 227, 3) := by decide +kernel
theorem dX7_nearer_51 : decode cX7_nearer 51 = .ok (.invokevirtual 86, 3) := by decide +kernel
theorem dX7_nearer_54 : decode cX7_nearer 54 = .ok (.ireturn, 1) := by decide +kernel
theorem dX7_solve_0 : decode cX7_solve 0 = .ok (.iload_n 1, 1) := by decide +kernel
theorem dX7_solve_1 : decode cX7_solve 1 = .ok (.iconst (-1), 1) := by decide +kernel
theorem dX7_solve_2 : decode cX7_solve 2 = .ok (.if_icmp .ge 9, 3) := by decide +kernel
theorem dX7_solve_5 : decode cX7_solve 5 = .ok (.aload_n 0, 1) := by decide +kernel
theorem dX7_solve_6 : decode cX7_solve 6 = .ok (.iconst 1, 1) := by decide +kernel
theorem dX7_solve_7 : decode cX7_solve 7 = .ok (.invokevirtual 56, 3) := by decide +kernel
theorem dX7_solve_10 : decode cX7_solve 10 = .ok (.ireturn, 1) := by decide +kernel
theorem dX7_solve_11 : decode cX7_solve 11 = .ok (.aload_n 0, 1) := by decide +kernel
theorem dX7_solve_12 : decode cX7_solve 12 = .ok (.aload_n 0, 1) := by decide +kernel
theorem dX7_solve_13 : decode cX7_solve 13 = .ok (.getfield 38, 3) := by decide +kernel
theorem dX7_solve_16 : decode cX7_solve 16 = .ok (.aload_n 0, 1) := by decide +kernel
theorem dX7_solve_17 : decode cX7_solve 17 = .ok (.getfield 19, 3) := by decide +kernel
theorem dX7_solve_20 : decode cX7_solve 20 = .ok (.getfield 95, 3) := by decide +kernel
theorem dX7_solve_23 : decode cX7_solve 23 = .ok (.invokestatic 128, 3) := by decide +kernel
theorem dX7_solve_26 : decode cX7_solve 26 = .ok (.iload_n 1, 1) := by decide +kernel
theorem dX7_solve_27 : decode cX7_solve 27 = .ok (.invokevirtual 193, 3) := by decide +kernel
theorem dX7_solve_30 : decode cX7_solve 30 = .ok (.ireturn, 1) := by decide +kernel
theorem dX7_centre_0 : decode cX7_centre 0 = .ok (.iload_n 1, 1) := by decide +kernel
theorem dX7_centre_1 : decode cX7_centre 1 = .ok (.iconst (-1), 1) := by decide +kernel
theorem dX7_centre_2 : decode cX7_centre 2 = .ok (.if_icmp .ge 9, 3) := by decide +kernel
theorem dX7_centre_5 : decode cX7_centre 5 = .ok (.aload_n 0, 1) := by decide +kernel
theorem dX7_centre_6 : decode cX7_centre 6 = .ok (.iconst 1, 1) := by decide +kernel
theorem dX7_centre_7 : decode cX7_centre 7 = .ok (.invokevirtual 56, 3) := by decide +kernel
theorem dX7_centre_10 : decode cX7_centre 10 = .ok (.ireturn, 1) := by decide +kernel
theorem dX7_centre_11 : decode cX7_centre 11 = .ok (.aload_n 0, 1) := by decide +kernel
theorem dX7_centre_12 : decode cX7_centre 12 = .ok (.invokevirtual 196, 3) := by decide +kernel
theorem dX7_centre_15 : decode cX7_centre 15 = .ok (.istore_n 2, 1) := by decide +kernel
theorem dX7_centre_16 : decode cX7_centre 16 = .ok (.iload_n 2, 1) := by decide +kernel
theorem dX7_centre_17 : decode cX7_centre 17 = .ok (.ifCond .eq 9, 3) := by decide +kernel
theorem dX7_centre_20 : decode cX7_centre 20 = .ok (.aload_n 0, 1) := by decide +kernel
theorem dX7_centre_21 : decode cX7_centre 21 = .ok (.iload_n 2, 1) := by decide +kernel
theorem dX7_centre_22 : decode cX7_centre 22 = .ok (.invokevirtual 56, 3) := by decide +kernel
theorem dX7_centre_25 : decode cX7_centre 25 = .ok (.ireturn, 1) := by decide +kernel
theorem dX7_centre_26 : decode cX7_centre 26 = .ok (.iload_n 1, 1) := by decide +kernel
theorem dX7_centre_27 : decode cX7_centre 27 = .ok (.iconst (-1), 1) := by decide +kernel
theorem dX7_centre_28 : decode cX7_centre 28 = .ok (.if_icmp .ne 15, 3) := by decide +kernel
theorem dX7_centre_31 : decode cX7_centre 31 = .ok (.aload_n 0, 1) := by decide +kernel
theorem dX7_centre_32 : decode cX7_centre 32 = .ok (.aload_n 0, 1) := by decide +kernel
theorem dX7_centre_33 : decode cX7_centre 33 = .ok (.getfield 19, 3) := by decide +kernel
theorem dX7_centre_36 : decode cX7_centre 36 = .ok (.invokevirtual 230, 3) := by decide +kernel
theorem dX7_centre_39 : decode cX7_centre 39 = .ok (.invokevirtual 86, 3) := by decide +kernel
theorem dX7_centre_42 : decode cX7_centre 42 = .ok (.ireturn, 1) := by decide +kernel
theorem dX7_centre_43 : decode cX7_centre 43 = .ok (.aload_n 0, 1) := by decide +kernel
theorem dX7_centre_44 : decode cX7_centre 44 = .ok (.getfield 19, 3) := by decide +kernel
theorem dX7_centre_47 : decode cX7_centre 47 = .ok (.iload_n 1, 1) := by decide +kernel
theorem dX7_centre_48 : decode cX7_centre 48 = .ok (.invokevirtual 233, 3) := by decide +kernel
theorem dX7_centre_51 : decode cX7_centre 51 = .ok (.istore_n 3, 1) := by decide +kernel
theorem dX7_centre_52 : decode cX7_centre 52 = .ok (.iload_n 3, 1) := by decide +kernel
theorem dX7_centre_53 : decode cX7_centre 53 = .ok (.ifCond .ge 11, 3) := by decide +kernel
theorem dX7_centre_56 : decode cX7_centre 56 = .ok (.aload_n 0, 1) := by decide +kernel
theorem dX7_centre_57 : decode cX7_centre 57 = .ok (.iconst 5, 1) := by decide +kernel
theorem dX7_centre_58 : decode cX7_centre 58 = .ok (.invokevirtual 56, 3) := by decide +kernel
theorem dX7_centre_61 : decode cX7_centre 61 = .ok (.goto 8, 3) := by decide +kernel
theorem dX7_centre_64 : decode cX7_centre 64 = .ok (.aload_n 0, 1) := by decide +kernel
theorem dX7_centre_65 : decode cX7_centre 65 = .ok (.iload_n 3, 1) := by decide +kernel
theorem dX7_centre_66 : decode cX7_centre 66 = .ok (.invokevirtual 86, 3) := by decide +kernel
theorem dX7_centre_69 : decode cX7_centre 69 = .ok (.ireturn, 1) := by decide +kernel
theorem dX7_classes_0 : decode cX7_classes 0 = .ok (.aload_n 0, 1) := by decide +kernel
theorem dX7_classes_1 : decode cX7_classes 1 = .ok (.invokevirtual 196, 3) := by decide +kernel
theorem dX7_classes_4 : decode cX7_classes 4 = .ok (.istore_n 1, 1) := by decide +kernel
theorem dX7_classes_5 : decode cX7_classes 5 = .ok (.iload_n 1, 1) := by decide +kernel
theorem dX7_classes_6 : decode cX7_classes 6 = .ok (.ifCond .eq 9, 3) := by decide +kernel
theorem dX7_classes_9 : decode cX7_classes 9 = .ok (.aload_n 0, 1) := by decide +kernel
theorem dX7_classes_10 : decode cX7_classes 10 = .ok (.iload_n 1, 1) := by decide +kernel
theorem dX7_classes_11 : decode cX7_classes 11 = .ok (.invokevirtual 56, 3) := by decide +kernel
theorem dX7_classes_14 : decode cX7_classes 14 = .ok (.ireturn, 1) := by decide +kernel
theorem dX7_classes_15 : decode cX7_classes 15 = .ok (.aload_n 0, 1) := by decide +kernel
theorem dX7_classes_16 : decode cX7_classes 16 = .ok (.aload_n 0, 1) := by decide +kernel
theorem dX7_classes_17 : decode cX7_classes 17 = .ok (.getfield 19, 3) := by decide +kernel
theorem dX7_classes_20 : decode cX7_classes 20 = .ok (.invokevirtual 236, 3) := by decide +kernel
theorem dX7_classes_23 : decode cX7_classes 23 = .ok (.getfield 239, 3) := by decide +kernel
theorem dX7_classes_26 : decode cX7_classes 26 = .ok (.invokevirtual 86, 3) := by decide +kernel
theorem dX7_classes_29 : decode cX7_classes 29 = .ok (.ireturn, 1) := by decide +kernel
theorem dX7_alike_0 : decode cX7_alike 0 = .ok (.aload_n 0, 1) := by decide +kernel
theorem dX7_alike_1 : decode cX7_alike 1 = .ok (.lload_n 1, 1) := by decide +kernel
theorem dX7_alike_2 : decode cX7_alike 2 = .ok (.invokevirtual 114, 3) := by decide +kernel
theorem dX7_alike_5 : decode cX7_alike 5 = .ok (.lstore_n 3, 1) := by decide +kernel
theorem dX7_alike_6 : decode cX7_alike 6 = .ok (.lload_n 3, 1) := by decide +kernel
theorem dX7_alike_7 : decode cX7_alike 7 = .ok (.lconst 0, 1) := by decide +kernel
theorem dX7_alike_8 : decode cX7_alike 8 = .ok (.lcmp, 1) := by decide +kernel
theorem dX7_alike_9 : decode cX7_alike 9 = .ok (.ifCond .ge 9, 3) := by decide +kernel
theorem dX7_alike_12 : decode cX7_alike 12 = .ok (.aload_n 0, 1) := by decide +kernel
theorem dX7_alike_13 : decode cX7_alike 13 = .ok (.iconst 1, 1) := by decide +kernel
theorem dX7_alike_14 : decode cX7_alike 14 = .ok (.invokevirtual 56, 3) := by decide +kernel
theorem dX7_alike_17 : decode cX7_alike 17 = .ok (.ireturn, 1) := by decide +kernel
theorem dX7_alike_18 : decode cX7_alike 18 = .ok (.aload_n 0, 1) := by decide +kernel
theorem dX7_alike_19 : decode cX7_alike 19 = .ok (.invokevirtual 196, 3) := by decide +kernel
theorem dX7_alike_22 : decode cX7_alike 22 = .ok (.istore 5, 2) := by decide +kernel
theorem dX7_alike_24 : decode cX7_alike 24 = .ok (.iload 5, 2) := by decide +kernel
theorem dX7_alike_26 : decode cX7_alike 26 = .ok (.ifCond .eq 10, 3) := by decide +kernel
theorem dX7_alike_29 : decode cX7_alike 29 = .ok (.aload_n 0, 1) := by decide +kernel
theorem dX7_alike_30 : decode cX7_alike 30 = .ok (.iload 5, 2) := by decide +kernel
theorem dX7_alike_32 : decode cX7_alike 32 = .ok (.invokevirtual 56, 3) := by decide +kernel
theorem dX7_alike_35 : decode cX7_alike 35 = .ok (.ireturn, 1) := by decide +kernel
theorem dX7_alike_36 : decode cX7_alike 36 = .ok (.aload_n 0, 1) := by decide +kernel
theorem dX7_alike_37 : decode cX7_alike 37 = .ok (.getfield 19, 3) := by decide +kernel
theorem dX7_alike_40 : decode cX7_alike 40 = .ok (.invokevirtual 236, 3) := by decide +kernel
theorem dX7_alike_43 : decode cX7_alike 43 = .ok (.astore 6, 2) := by decide +kernel
theorem dX7_alike_45 : decode cX7_alike 45 = .ok (.aload 6, 2) := by decide +kernel
theorem dX7_alike_47 : decode cX7_alike 47 = .ok (.lload_n 3, 1) := by decide +kernel
theorem dX7_alike_48 : decode cX7_alike 48 = .ok (.invokevirtual 224, 3) := by decide +kernel
theorem dX7_alike_51 : decode cX7_alike 51 = .ok (.istore 7, 2) := by decide +kernel
theorem dX7_alike_53 : decode cX7_alike 53 = .ok (.iload 7, 2) := by decide +kernel
theorem dX7_alike_55 : decode cX7_alike 55 = .ok (.ifCond .ge 12, 3) := by decide +kernel
theorem dX7_alike_58 : decode cX7_alike 58 = .ok (.aload_n 0, 1) := by decide +kernel
theorem dX7_alike_59 : decode cX7_alike 59 = .ok (.bipush 6, 2) := by decide +kernel
theorem dX7_alike_61 : decode cX7_alike 61 = .ok (.invokevirtual 56, 3) := by decide +kernel
theorem dX7_alike_64 : decode cX7_alike 64 = .ok (.goto 14, 3) := by decide +kernel
theorem dX7_alike_67 : decode cX7_alike 67 = .ok (.aload_n 0, 1) := by decide +kernel
theorem dX7_alike_68 : decode cX7_alike 68 = .ok (.aload 6, 2) := by decide +kernel
theorem dX7_alike_70 : decode cX7_alike 70 = .ok (.iload 7, 2) := by decide +kernel
theorem dX7_alike_72 : decode cX7_alike 72 = .ok (.invokevirtual 242, 3) := by decide +kernel
theorem dX7_alike_75 : decode cX7_alike 75 = .ok (.invokevirtual 86, 3) := by decide +kernel
theorem dX7_alike_78 : decode cX7_alike 78 = .ok (.ireturn, 1) := by decide +kernel
theorem dX7_derived_0 : decode cX7_derived 0 = .ok (.iload_n 1, 1) := by decide +kernel
theorem dX7_derived_1 : decode cX7_derived 1 = .ok (.ifCond .ge 9, 3) := by decide +kernel
theorem dX7_derived_4 : decode cX7_derived 4 = .ok (.aload_n 0, 1) := by decide +kernel
theorem dX7_derived_5 : decode cX7_derived 5 = .ok (.iconst 1, 1) := by decide +kernel
theorem dX7_derived_6 : decode cX7_derived 6 = .ok (.invokevirtual 56, 3) := by decide +kernel
theorem dX7_derived_9 : decode cX7_derived 9 = .ok (.ireturn, 1) := by decide +kernel
theorem dX7_derived_10 : decode cX7_derived 10 = .ok (.aload_n 0, 1) := by decide +kernel
theorem dX7_derived_11 : decode cX7_derived 11 = .ok (.getfield 19, 3) := by decide +kernel
theorem dX7_derived_14 : decode cX7_derived 14 = .ok (.getfield 95, 3) := by decide +kernel
theorem dX7_derived_17 : decode cX7_derived 17 = .ok (.ifCond .ne 9, 3) := by decide +kernel
theorem dX7_derived_20 : decode cX7_derived 20 = .ok (.aload_n 0, 1) := by decide +kernel
theorem dX7_derived_21 : decode cX7_derived 21 = .ok (.iconst 5, 1) := by decide +kernel
theorem dX7_derived_22 : decode cX7_derived 22 = .ok (.invokevirtual 56, 3) := by decide +kernel
theorem dX7_derived_25 : decode cX7_derived 25 = .ok (.ireturn, 1) := by decide +kernel
theorem dX7_derived_26 : decode cX7_derived 26 = .ok (.aload_n 0, 1) := by decide +kernel
theorem dX7_derived_27 : decode cX7_derived 27 = .ok (.getfield 19, 3) := by decide +kernel
theorem dX7_derived_30 : decode cX7_derived 30 = .ok (.iconst 0, 1) := by decide +kernel
theorem dX7_derived_31 : decode cX7_derived 31 = .ok (.invokevirtual 245, 3) := by decide +kernel
theorem dX7_derived_34 : decode cX7_derived 34 = .ok (.iload_n 1, 1) := by decide +kernel
theorem dX7_derived_35 : decode cX7_derived 35 = .ok (.invokevirtual 249, 3) := by decide +kernel
theorem dX7_derived_38 : decode cX7_derived 38 = .ok (.istore_n 2, 1) := by decide +kernel
theorem dX7_derived_39 : decode cX7_derived 39 = .ok (.iload_n 2, 1) := by decide +kernel
theorem dX7_derived_40 : decode cX7_derived 40 = .ok (.ifCond .ne 11, 3) := by decide +kernel
theorem dX7_derived_43 : decode cX7_derived 43 = .ok (.aload_n 0, 1) := by decide +kernel
theorem dX7_derived_44 : decode cX7_derived 44 = .ok (.iconst 5, 1) := by decide +kernel
theorem dX7_derived_45 : decode cX7_derived 45 = .ok (.invokevirtual 56, 3) := by decide +kernel
theorem dX7_derived_48 : decode cX7_derived 48 = .ok (.goto 8, 3) := by decide +kernel
theorem dX7_derived_51 : decode cX7_derived 51 = .ok (.aload_n 0, 1) := by decide +kernel
theorem dX7_derived_52 : decode cX7_derived 52 = .ok (.iload_n 2, 1) := by decide +kernel
theorem dX7_derived_53 : decode cX7_derived 53 = .ok (.invokevirtual 86, 3) := by decide +kernel
theorem dX7_derived_56 : decode cX7_derived 56 = .ok (.ireturn, 1) := by decide +kernel
theorem dX7_has_0 : decode cX7_has 0 = .ok (.iload_n 1, 1) := by decide +kernel
theorem dX7_has_1 : decode cX7_has 1 = .ok (.ifCond .lt 8, 3) := by decide +kernel
theorem dX7_has_4 : decode cX7_has 4 = .ok (.iload_n 1, 1) := by decide +kernel
theorem dX7_has_5 : decode cX7_has 5 = .ok (.iconst 3, 1) := by decide +kernel
theorem dX7_has_6 : decode cX7_has 6 = .ok (.if_icmp .le 9, 3) := by decide +kernel
theorem dX7_has_9 : decode cX7_has 9 = .ok (.aload_n 0, 1) := by decide +kernel
theorem dX7_has_10 : decode cX7_has 10 = .ok (.iconst 1, 1) := by decide +kernel
theorem dX7_has_11 : decode cX7_has 11 = .ok (.invokevirtual 56, 3) := by decide +kernel
theorem dX7_has_14 : decode cX7_has 14 = .ok (.ireturn, 1) := by decide +kernel
theorem dX7_has_15 : decode cX7_has 15 = .ok (.aload_n 0, 1) := by decide +kernel
theorem dX7_has_16 : decode cX7_has 16 = .ok (.getfield 19, 3) := by decide +kernel
theorem dX7_has_19 : decode cX7_has 19 = .ok (.getfield 95, 3) := by decide +kernel
theorem dX7_has_22 : decode cX7_has 22 = .ok (.ifCond .ne 9, 3) := by decide +kernel
theorem dX7_has_25 : decode cX7_has 25 = .ok (.aload_n 0, 1) := by decide +kernel
theorem dX7_has_26 : decode cX7_has 26 = .ok (.iconst 5, 1) := by decide +kernel
theorem dX7_has_27 : decode cX7_has 27 = .ok (.invokevirtual 56, 3) := by decide +kernel
theorem dX7_has_30 : decode cX7_has 30 = .ok (.ireturn, 1) := by decide +kernel
theorem dX7_has_31 : decode cX7_has 31 = .ok (.iload_n 1, 1) := by decide +kernel
theorem dX7_has_32 : decode cX7_has 32 = .ok (.ifCond .ne 14, 3) := by decide +kernel
theorem dX7_has_35 : decode cX7_has 35 = .ok (.aload_n 0, 1) := by decide +kernel
theorem dX7_has_36 : decode cX7_has 36 = .ok (.getfield 19, 3) := by decide +kernel
theorem dX7_has_39 : decode cX7_has 39 = .ok (.invokevirtual 254, 3) := by decide +kernel
theorem dX7_has_42 : decode cX7_has 42 = .ok (.istore_n 2, 1) := by decide +kernel
theorem dX7_has_43 : decode cX7_has 43 = .ok (.goto 47, 3) := by decide +kernel
theorem dX7_has_46 : decode cX7_has 46 = .ok (.iload_n 1, 1) := by decide +kernel
theorem dX7_has_47 : decode cX7_has 47 = .ok (.iconst 1, 1) := by decide +kernel
theorem dX7_has_48 : decode cX7_has 48 = .ok (.if_icmp .ne 18, 3) := by decide +kernel
theorem dX7_has_51 : decode cX7_has 51 = .ok (.aload_n 0, 1) := by decide +kernel
theorem dX7_has_52 : decode cX7_has 52 = .ok (.getfield 19, 3) := by decide +kernel
theorem dX7_has_55 : decode cX7_has 55 = .ok (.iconst 0, 1) := by decide +kernel
theorem dX7_has_56 : decode cX7_has 56 = .ok (.invokevirtual 245, 3) := by decide +kernel
theorem dX7_has_59 : decode cX7_has 59 = .ok (.invokevirtual 258, 3) := by decide +kernel
theorem dX7_has_62 : decode cX7_has 62 = .ok (.istore_n 2, 1) := by decide +kernel
theorem dX7_has_63 : decode cX7_has 63 = .ok (.goto 27, 3) := by decide +kernel
theorem dX7_has_66 : decode cX7_has 66 = .ok (.iload_n 1, 1) := by decide +kernel
theorem dX7_has_67 : decode cX7_has 67 = .ok (.iconst 2, 1) := by decide +kernel
theorem dX7_has_68 : decode cX7_has 68 = .ok (.if_icmp .ne 14, 3) := by decide +kernel
theorem dX7_has_71 : decode cX7_has 71 = .ok (.aload_n 0, 1) := by decide +kernel
theorem dX7_has_72 : decode cX7_has 72 = .ok (.getfield 19, 3) := by decide +kernel
theorem dX7_has_75 : decode cX7_has 75 = .ok (.invokevirtual 261, 3) := by decide +kernel
theorem dX7_has_78 : decode cX7_has 78 = .ok (.istore_n 2, 1) := by decide +kernel
theorem dX7_has_79 : decode cX7_has 79 = .ok (.goto 11, 3) := by decide +kernel
theorem dX7_has_82 : decode cX7_has 82 = .ok (.aload_n 0, 1) := by decide +kernel
theorem dX7_has_83 : decode cX7_has 83 = .ok (.getfield 19, 3) := by decide +kernel
theorem dX7_has_86 : decode cX7_has 86 = .ok (.invokevirtual 264, 3) := by decide +kernel
theorem dX7_has_89 : decode cX7_has 89 = .ok (.istore_n 2, 1) := by decide +kernel
theorem dX7_has_90 : decode cX7_has 90 = .ok (.aload_n 0, 1) := by decide +kernel
theorem dX7_has_91 : decode cX7_has 91 = .ok (.iload_n 2, 1) := by decide +kernel
theorem dX7_has_92 : decode cX7_has 92 = .ok (.ifCond .eq 7, 3) := by decide +kernel
theorem dX7_has_95 : decode cX7_has 95 = .ok (.iconst 1, 1) := by decide +kernel
theorem dX7_has_96 : decode cX7_has 96 = .ok (.goto 4, 3) := by decide +kernel
theorem dX7_has_99 : decode cX7_has 99 = .ok (.iconst 0, 1) := by decide +kernel
theorem dX7_has_100 : decode cX7_has 100 = .ok (.invokevirtual 86, 3) := by decide +kernel
theorem dX7_has_103 : decode cX7_has 103 = .ok (.ireturn, 1) := by decide +kernel
theorem dX7_commutator_0 : decode cX7_commutator 0 = .ok (.aload_n 0, 1) := by decide +kernel
theorem dX7_commutator_1 : decode cX7_commutator 1 = .ok (.lload_n 1, 1) := by decide +kernel
theorem dX7_commutator_2 : decode cX7_commutator 2 = .ok (.invokevirtual 114, 3) := by decide +kernel
theorem dX7_commutator_5 : decode cX7_commutator 5 = .ok (.lstore 5, 2) := by decide +kernel
theorem dX7_commutator_7 : decode cX7_commutator 7 = .ok (.aload_n 0, 1) := by decide +kernel
theorem dX7_commutator_8 : decode cX7_commutator 8 = .ok (.lload_n 3, 1) := by decide +kernel
theorem dX7_commutator_9 : decode cX7_commutator 9 = .ok (.invokevirtual 114, 3) := by decide +kernel
theorem dX7_commutator_12 : decode cX7_commutator 12 = .ok (.lstore 7, 2) := by decide +kernel
theorem dX7_commutator_14 : decode cX7_commutator 14 = .ok (.lload 5, 2) := by decide +kernel
theorem dX7_commutator_16 : decode cX7_commutator 16 = .ok (.lconst 0, 1) := by decide +kernel
theorem dX7_commutator_17 : decode cX7_commutator 17 = .ok (.lcmp, 1) := by decide +kernel
theorem dX7_commutator_18 : decode cX7_commutator 18 = .ok (.ifCond .lt 10, 3) := by decide +kernel
theorem dX7_commutator_21 : decode cX7_commutator 21 = .ok (.lload 7, 2) := by decide +kernel
theorem dX7_commutator_23 : decode cX7_commutator 23 = .ok (.lconst 0, 1) := by decide +kernel
theorem dX7_commutator_24 : decode cX7_commutator 24 = .ok (.lcmp, 1) := by decide +kernel
theorem dX7_commutator_25 : decode cX7_commutator 25 = .ok (.ifCond .ge 10, 3) := by decide +kernel
theorem dX7_commutator_28 : decode cX7_commutator 28 = .ok (.aload_n 0, 1) := by decide +kernel
theorem dX7_commutator_29 : decode cX7_commutator 29 = .ok (.iconst 1, 1) := by decide +kernel
theorem dX7_commutator_30 : decode cX7_commutator 30 = .ok (.invokevirtual 56, 3) := by decide +kernel
theorem dX7_commutator_33 : decode cX7_commutator 33 = .ok (.i2l, 1) := by decide +kernel
theorem dX7_commutator_34 : decode cX7_commutator 34 = .ok (.lreturn, 1) := by decide +kernel
theorem dX7_commutator_35 : decode cX7_commutator 35 = .ok (.aload_n 0, 1) := by decide +kernel
theorem dX7_commutator_36 : decode cX7_commutator 36 = .ok (.lload 5, 2) := by decide +kernel
theorem dX7_commutator_38 : decode cX7_commutator 38 = .ok (.lload 7, 2) := by decide +kernel
theorem dX7_commutator_40 : decode cX7_commutator 40 = .ok (.aload_n 0, 1) := by decide +kernel
theorem dX7_commutator_41 : decode cX7_commutator 41 = .ok (.getfield 19, 3) := by decide +kernel
theorem dX7_commutator_44 : decode cX7_commutator 44 = .ok (.getfield 95, 3) := by decide +kernel
theorem dX7_commutator_47 : decode cX7_commutator 47 = .ok (.invokestatic 267, 3) := by decide +kernel
theorem dX7_commutator_50 : decode cX7_commutator 50 = .ok (.invokevirtual 110, 3) := by decide +kernel
theorem dX7_commutator_53 : decode cX7_commutator 53 = .ok (.lreturn, 1) := by decide +kernel
theorem dX7_turned_0 : decode cX7_turned 0 = .ok (.aload_n 0, 1) := by decide +kernel
theorem dX7_turned_1 : decode cX7_turned 1 = .ok (.lload_n 1, 1) := by decide +kernel
theorem dX7_turned_2 : decode cX7_turned 2 = .ok (.invokevirtual 114, 3) := by decide +kernel
theorem dX7_turned_5 : decode cX7_turned 5 = .ok (.lstore 5, 2) := by decide +kernel
theorem dX7_turned_7 : decode cX7_turned 7 = .ok (.aload_n 0, 1) := by decide +kernel
theorem dX7_turned_8 : decode cX7_turned 8 = .ok (.lload_n 3, 1) := by decide +kernel
theorem dX7_turned_9 : decode cX7_turned 9 = .ok (.invokevirtual 114, 3) := by decide +kernel
theorem dX7_turned_12 : decode cX7_turned 12 = .ok (.lstore 7, 2) := by decide +kernel
theorem dX7_turned_14 : decode cX7_turned 14 = .ok (.lload 5, 2) := by decide +kernel
theorem dX7_turned_16 : decode cX7_turned 16 = .ok (.lconst 0, 1) := by decide +kernel
theorem dX7_turned_17 : decode cX7_turned 17 = .ok (.lcmp, 1) := by decide +kernel
theorem dX7_turned_18 : decode cX7_turned 18 = .ok (.ifCond .lt 10, 3) := by decide +kernel
theorem dX7_turned_21 : decode cX7_turned 21 = .ok (.lload 7, 2) := by decide +kernel
theorem dX7_turned_23 : decode cX7_turned 23 = .ok (.lconst 0, 1) := by decide +kernel
theorem dX7_turned_24 : decode cX7_turned 24 = .ok (.lcmp, 1) := by decide +kernel
theorem dX7_turned_25 : decode cX7_turned 25 = .ok (.ifCond .ge 10, 3) := by decide +kernel
theorem dX7_turned_28 : decode cX7_turned 28 = .ok (.aload_n 0, 1) := by decide +kernel
theorem dX7_turned_29 : decode cX7_turned 29 = .ok (.iconst 1, 1) := by decide +kernel
theorem dX7_turned_30 : decode cX7_turned 30 = .ok (.invokevirtual 56, 3) := by decide +kernel
theorem dX7_turned_33 : decode cX7_turned 33 = .ok (.i2l, 1) := by decide +kernel
theorem dX7_turned_34 : decode cX7_turned 34 = .ok (.lreturn, 1) := by decide +kernel
theorem dX7_turned_35 : decode cX7_turned 35 = .ok (.aload_n 0, 1) := by decide +kernel
theorem dX7_turned_36 : decode cX7_turned 36 = .ok (.lload 5, 2) := by decide +kernel
theorem dX7_turned_38 : decode cX7_turned 38 = .ok (.lload 7, 2) := by decide +kernel
theorem dX7_turned_40 : decode cX7_turned 40 = .ok (.aload_n 0, 1) := by decide +kernel
theorem dX7_turned_41 : decode cX7_turned 41 = .ok (.getfield 19, 3) := by decide +kernel
theorem dX7_turned_44 : decode cX7_turned 44 = .ok (.getfield 95, 3) := by decide +kernel
theorem dX7_turned_47 : decode cX7_turned 47 = .ok (.invokestatic 270, 3) := by decide +kernel
theorem dX7_turned_50 : decode cX7_turned 50 = .ok (.invokevirtual 110, 3) := by decide +kernel
theorem dX7_turned_53 : decode cX7_turned 53 = .ok (.lreturn, 1) := by decide +kernel
theorem dX7_same_0 : decode cX7_same 0 = .ok (.aload_n 0, 1) := by decide +kernel
theorem dX7_same_1 : decode cX7_same 1 = .ok (.lload_n 1, 1) := by decide +kernel
theorem dX7_same_2 : decode cX7_same 2 = .ok (.invokevirtual 114, 3) := by decide +kernel
theorem dX7_same_5 : decode cX7_same 5 = .ok (.lstore 5, 2) := by decide +kernel
theorem dX7_same_7 : decode cX7_same 7 = .ok (.aload_n 0, 1) := by decide +kernel
theorem dX7_same_8 : decode cX7_same 8 = .ok (.lload_n 3, 1) := by decide +kernel
theorem dX7_same_9 : decode cX7_same 9 = .ok (.invokevirtual 114, 3) := by decide +kernel
theorem dX7_same_12 : decode cX7_same 12 = .ok (.lstore 7, 2) := by decide +kernel
theorem dX7_same_14 : decode cX7_same 14 = .ok (.lload 5, 2) := by decide +kernel
theorem dX7_same_16 : decode cX7_same 16 = .ok (.lconst 0, 1) := by decide +kernel
theorem dX7_same_17 : decode cX7_same 17 = .ok (.lcmp, 1) := by decide +kernel
theorem dX7_same_18 : decode cX7_same 18 = .ok (.ifCond .lt 10, 3) := by decide +kernel
theorem dX7_same_21 : decode cX7_same 21 = .ok (.lload 7, 2) := by decide +kernel
theorem dX7_same_23 : decode cX7_same 23 = .ok (.lconst 0, 1) := by decide +kernel
theorem dX7_same_24 : decode cX7_same 24 = .ok (.lcmp, 1) := by decide +kernel
theorem dX7_same_25 : decode cX7_same 25 = .ok (.ifCond .ge 9, 3) := by decide +kernel
theorem dX7_same_28 : decode cX7_same 28 = .ok (.aload_n 0, 1) := by decide +kernel
theorem dX7_same_29 : decode cX7_same 29 = .ok (.iconst 1, 1) := by decide +kernel
theorem dX7_same_30 : decode cX7_same 30 = .ok (.invokevirtual 56, 3) := by decide +kernel
theorem dX7_same_33 : decode cX7_same 33 = .ok (.ireturn, 1) := by decide +kernel
theorem dX7_same_34 : decode cX7_same 34 = .ok (.aload_n 0, 1) := by decide +kernel
theorem dX7_same_35 : decode cX7_same 35 = .ok (.invokevirtual 196, 3) := by decide +kernel
theorem dX7_same_38 : decode cX7_same 38 = .ok (.istore 9, 2) := by decide +kernel
theorem dX7_same_40 : decode cX7_same 40 = .ok (.iload 9, 2) := by decide +kernel
theorem dX7_same_42 : decode cX7_same 42 = .ok (.ifCond .eq 10, 3) := by decide +kernel
theorem dX7_same_45 : decode cX7_same 45 = .ok (.aload_n 0, 1) := by decide +kernel
theorem dX7_same_46 : decode cX7_same 46 = .ok (.iload 9, 2) := by decide +kernel
theorem dX7_same_48 : decode cX7_same 48 = .ok (.invokevirtual 56, 3) := by decide +kernel
theorem dX7_same_51 : decode cX7_same 51 = .ok (.ireturn, 1) := by decide +kernel
theorem dX7_same_52 : decode cX7_same 52 = .ok (.aload_n 0, 1) := by decide +kernel
theorem dX7_same_53 : decode cX7_same 53 = .ok (.getfield 19, 3) := by decide +kernel
theorem dX7_same_56 : decode cX7_same 56 = .ok (.invokevirtual 236, 3) := by decide +kernel
theorem dX7_same_59 : decode cX7_same 59 = .ok (.astore 10, 2) := by decide +kernel
theorem dX7_same_61 : decode cX7_same 61 = .ok (.aload 10, 2) := by decide +kernel
theorem dX7_same_63 : decode cX7_same 63 = .ok (.lload 5, 2) := by decide +kernel
theorem dX7_same_65 : decode cX7_same 65 = .ok (.invokevirtual 224, 3) := by decide +kernel
theorem dX7_same_68 : decode cX7_same 68 = .ok (.istore 11, 2) := by decide +kernel
theorem dX7_same_70 : decode cX7_same 70 = .ok (.aload 10, 2) := by decide +kernel
theorem dX7_same_72 : decode cX7_same 72 = .ok (.lload 7, 2) := by decide +kernel
theorem dX7_same_74 : decode cX7_same 74 = .ok (.invokevirtual 224, 3) := by decide +kernel
theorem dX7_same_77 : decode cX7_same 77 = .ok (.istore 12, 2) := by decide +kernel
theorem dX7_same_79 : decode cX7_same 79 = .ok (.iload 11, 2) := by decide +kernel
theorem dX7_same_81 : decode cX7_same 81 = .ok (.ifCond .lt 8, 3) := by decide +kernel
theorem dX7_same_84 : decode cX7_same 84 = .ok (.iload 12, 2) := by decide +kernel
theorem dX7_same_86 : decode cX7_same 86 = .ok (.ifCond .ge 10, 3) := by decide +kernel
theorem dX7_same_89 : decode cX7_same 89 = .ok (.aload_n 0, 1) := by decide +kernel
theorem dX7_same_90 : decode cX7_same 90 = .ok (.bipush 6, 2) := by decide +kernel
theorem dX7_same_92 : decode cX7_same 92 = .ok (.invokevirtual 56, 3) := by decide +kernel
theorem dX7_same_95 : decode cX7_same 95 = .ok (.ireturn, 1) := by decide +kernel
theorem dX7_same_96 : decode cX7_same 96 = .ok (.aload_n 0, 1) := by decide +kernel
theorem dX7_same_97 : decode cX7_same 97 = .ok (.aload 10, 2) := by decide +kernel
theorem dX7_same_99 : decode cX7_same 99 = .ok (.getfield 273, 3) := by decide +kernel
theorem dX7_same_102 : decode cX7_same 102 = .ok (.iload 11, 2) := by decide +kernel
theorem dX7_same_104 : decode cX7_same 104 = .ok (.iaload, 1) := by decide +kernel
theorem dX7_same_105 : decode cX7_same 105 = .ok (.aload 10, 2) := by decide +kernel
theorem dX7_same_107 : decode cX7_same 107 = .ok (.getfield 273, 3) := by decide +kernel
theorem dX7_same_110 : decode cX7_same 110 = .ok (.iload 12, 2) := by decide +kernel
theorem dX7_same_112 : decode cX7_same 112 = .ok (.iaload, 1) := by decide +kernel
theorem dX7_same_113 : decode cX7_same 113 = .ok (.if_icmp .ne 7, 3) := by decide +kernel
theorem dX7_same_116 : decode cX7_same 116 = .ok (.iconst 1, 1) := by decide +kernel
theorem dX7_same_117 : decode cX7_same 117 = .ok (.goto 4, 3) := by decide +kernel
theorem dX7_same_120 : decode cX7_same 120 = .ok (.iconst 0, 1) := by decide +kernel
theorem dX7_same_121 : decode cX7_same 121 = .ok (.invokevirtual 86, 3) := by decide +kernel
theorem dX7_same_124 : decode cX7_same 124 = .ok (.ireturn, 1) := by decide +kernel
theorem dX7_central_0 : decode cX7_central 0 = .ok (.iload_n 1, 1) := by decide +kernel
theorem dX7_central_1 : decode cX7_central 1 = .ok (.ifCond .ge 9, 3) := by decide +kernel
theorem dX7_central_4 : decode cX7_central 4 = .ok (.aload_n 0, 1) := by decide +kernel
theorem dX7_central_5 : decode cX7_central 5 = .ok (.iconst 1, 1) := by decide +kernel
theorem dX7_central_6 : decode cX7_central 6 = .ok (.invokevirtual 56, 3) := by decide +kernel
theorem dX7_central_9 : decode cX7_central 9 = .ok (.ireturn, 1) := by decide +kernel
theorem dX7_central_10 : decode cX7_central 10 = .ok (.aload_n 0, 1) := by decide +kernel
theorem dX7_central_11 : decode cX7_central 11 = .ok (.getfield 19, 3) := by decide +kernel
theorem dX7_central_14 : decode cX7_central 14 = .ok (.getfield 95, 3) := by decide +kernel
theorem dX7_central_17 : decode cX7_central 17 = .ok (.ifCond .ne 9, 3) := by decide +kernel
theorem dX7_central_20 : decode cX7_central 20 = .ok (.aload_n 0, 1) := by decide +kernel
theorem dX7_central_21 : decode cX7_central 21 = .ok (.iconst 5, 1) := by decide +kernel
theorem dX7_central_22 : decode cX7_central 22 = .ok (.invokevirtual 56, 3) := by decide +kernel
theorem dX7_central_25 : decode cX7_central 25 = .ok (.ireturn, 1) := by decide +kernel
theorem dX7_central_26 : decode cX7_central 26 = .ok (.aload_n 0, 1) := by decide +kernel
theorem dX7_central_27 : decode cX7_central 27 = .ok (.getfield 19, 3) := by decide +kernel
theorem dX7_central_30 : decode cX7_central 30 = .ok (.iconst 1, 1) := by decide +kernel
theorem dX7_central_31 : decode cX7_central 31 = .ok (.invokevirtual 245, 3) := by decide +kernel
theorem dX7_central_34 : decode cX7_central 34 = .ok (.iload_n 1, 1) := by decide +kernel
theorem dX7_central_35 : decode cX7_central 35 = .ok (.invokevirtual 249, 3) := by decide +kernel
theorem dX7_central_38 : decode cX7_central 38 = .ok (.istore_n 2, 1) := by decide +kernel
theorem dX7_central_39 : decode cX7_central 39 = .ok (.iload_n 2, 1) := by decide +kernel
theorem dX7_central_40 : decode cX7_central 40 = .ok (.ifCond .ne 11, 3) := by decide +kernel
theorem dX7_central_43 : decode cX7_central 43 = .ok (.aload_n 0, 1) := by decide +kernel
theorem dX7_central_44 : decode cX7_central 44 = .ok (.iconst 5, 1) := by decide +kernel
theorem dX7_central_45 : decode cX7_central 45 = .ok (.invokevirtual 56, 3) := by decide +kernel
theorem dX7_central_48 : decode cX7_central 48 = .ok (.goto 8, 3) := by decide +kernel
theorem dX7_central_51 : decode cX7_central 51 = .ok (.aload_n 0, 1) := by decide +kernel
theorem dX7_central_52 : decode cX7_central 52 = .ok (.iload_n 2, 1) := by decide +kernel
theorem dX7_central_53 : decode cX7_central 53 = .ok (.invokevirtual 86, 3) := by decide +kernel
theorem dX7_central_56 : decode cX7_central 56 = .ok (.ireturn, 1) := by decide +kernel
theorem dX7_by_0 : decode cX7_by 0 = .ok (.aload_n 0, 1) := by decide +kernel
theorem dX7_by_1 : decode cX7_by 1 = .ok (.getfield 19, 3) := by decide +kernel
theorem dX7_by_4 : decode cX7_by 4 = .ok (.iload_n 1, 1) := by decide +kernel
theorem dX7_by_5 : decode cX7_by 5 = .ok (.invokevirtual 277, 3) := by decide +kernel
theorem dX7_by_8 : decode cX7_by 8 = .ok (.ifCond .ne 9, 3) := by decide +kernel
theorem dX7_by_11 : decode cX7_by 11 = .ok (.aload_n 0, 1) := by decide +kernel
theorem dX7_by_12 : decode cX7_by 12 = .ok (.iconst 2, 1) := by decide +kernel
theorem dX7_by_13 : decode cX7_by 13 = .ok (.invokevirtual 56, 3) := by decide +kernel
theorem dX7_by_16 : decode cX7_by 16 = .ok (.ireturn, 1) := by decide +kernel
theorem dX7_by_17 : decode cX7_by 17 = .ok (.aload_n 0, 1) := by decide +kernel
theorem dX7_by_18 : decode cX7_by 18 = .ok (.getfield 19, 3) := by decide +kernel
theorem dX7_by_21 : decode cX7_by 21 = .ok (.getfield 95, 3) := by decide +kernel
theorem dX7_by_24 : decode cX7_by 24 = .ok (.ifCond .ne 9, 3) := by decide +kernel
theorem dX7_by_27 : decode cX7_by 27 = .ok (.aload_n 0, 1) := by decide +kernel
theorem dX7_by_28 : decode cX7_by 28 = .ok (.iconst 5, 1) := by decide +kernel
theorem dX7_by_29 : decode cX7_by 29 = .ok (.invokevirtual 56, 3) := by decide +kernel
theorem dX7_by_32 : decode cX7_by 32 = .ok (.ireturn, 1) := by decide +kernel
theorem dX7_by_33 : decode cX7_by 33 = .ok (.aload_n 0, 1) := by decide +kernel
theorem dX7_by_34 : decode cX7_by 34 = .ok (.aload_n 0, 1) := by decide +kernel
theorem dX7_by_35 : decode cX7_by 35 = .ok (.getfield 19, 3) := by decide +kernel
theorem dX7_by_38 : decode cX7_by 38 = .ok (.iload_n 1, 1) := by decide +kernel
theorem dX7_by_39 : decode cX7_by 39 = .ok (.invokevirtual 280, 3) := by decide +kernel
theorem dX7_by_42 : decode cX7_by 42 = .ok (.invokevirtual 86, 3) := by decide +kernel
theorem dX7_by_45 : decode cX7_by 45 = .ok (.ireturn, 1) := by decide +kernel
theorem dX7_meet_0 : decode cX7_meet 0 = .ok (.aload_n 0, 1) := by decide +kernel
theorem dX7_meet_1 : decode cX7_meet 1 = .ok (.getfield 19, 3) := by decide +kernel
theorem dX7_meet_4 : decode cX7_meet 4 = .ok (.iload_n 1, 1) := by decide +kernel
theorem dX7_meet_5 : decode cX7_meet 5 = .ok (.invokevirtual 277, 3) := by decide +kernel
theorem dX7_meet_8 : decode cX7_meet 8 = .ok (.ifCond .eq 14, 3) := by decide +kernel
theorem dX7_meet_11 : decode cX7_meet 11 = .ok (.aload_n 0, 1) := by decide +kernel
theorem dX7_meet_12 : decode cX7_meet 12 = .ok (.getfield 19, 3) := by decide +kernel
theorem dX7_meet_15 : decode cX7_meet 15 = .ok (.iload_n 2, 1) := by decide +kernel
theorem dX7_meet_16 : decode cX7_meet 16 = .ok (.invokevirtual 277, 3) := by decide +kernel
theorem dX7_meet_19 : decode cX7_meet 19 = .ok (.ifCond .ne 9, 3) := by decide +kernel
theorem dX7_meet_22 : decode cX7_meet 22 = .ok (.aload_n 0, 1) := by decide +kernel
theorem dX7_meet_23 : decode cX7_meet 23 = .ok (.iconst 2, 1) := by decide +kernel
theorem dX7_meet_24 : decode cX7_meet 24 = .ok (.invokevirtual 56, 3) := by decide +kernel
theorem dX7_meet_27 : decode cX7_meet 27 = .ok (.ireturn, 1) := by decide +kernel
theorem dX7_meet_28 : decode cX7_meet 28 = .ok (.aload_n 0, 1) := by decide +kernel
theorem dX7_meet_29 : decode cX7_meet 29 = .ok (.invokevirtual 196, 3) := by decide +kernel
theorem dX7_meet_32 : decode cX7_meet 32 = .ok (.istore_n 3, 1) := by decide +kernel
theorem dX7_meet_33 : decode cX7_meet 33 = .ok (.iload_n 3, 1) := by decide +kernel
theorem dX7_meet_34 : decode cX7_meet 34 = .ok (.ifCond .eq 9, 3) := by decide +kernel
theorem dX7_meet_37 : decode cX7_meet 37 = .ok (.aload_n 0, 1) := by decide +kernel
theorem dX7_meet_38 : decode cX7_meet 38 = .ok (.iload_n 3, 1) := by decide +kernel
theorem dX7_meet_39 : decode cX7_meet 39 = .ok (.invokevirtual 56, 3) := by decide +kernel
theorem dX7_meet_42 : decode cX7_meet 42 = .ok (.ireturn, 1) := by decide +kernel
theorem dX7_meet_43 : decode cX7_meet 43 = .ok (.aload_n 0, 1) := by decide +kernel
theorem dX7_meet_44 : decode cX7_meet 44 = .ok (.aload_n 0, 1) := by decide +kernel
theorem dX7_meet_45 : decode cX7_meet 45 = .ok (.getfield 19, 3) := by decide +kernel
theorem dX7_meet_48 : decode cX7_meet 48 = .ok (.iload_n 1, 1) := by decide +kernel
theorem dX7_meet_49 : decode cX7_meet 49 = .ok (.iload_n 2, 1) := by decide +kernel
theorem dX7_meet_50 : decode cX7_meet 50 = .ok (.invokevirtual 283, 3) := by decide +kernel
theorem dX7_meet_53 : decode cX7_meet 53 = .ok (.invokevirtual 86, 3) := by decide +kernel
theorem dX7_meet_56 : decode cX7_meet 56 = .ok (.ireturn, 1) := by decide +kernel
theorem dX7_normal_0 : decode cX7_normal 0 = .ok (.aload_n 0, 1) := by decide +kernel
theorem dX7_normal_1 : decode cX7_normal 1 = .ok (.getfield 19, 3) := by decide +kernel
theorem dX7_normal_4 : decode cX7_normal 4 = .ok (.iload_n 1, 1) := by decide +kernel
theorem dX7_normal_5 : decode cX7_normal 5 = .ok (.invokevirtual 277, 3) := by decide +kernel
theorem dX7_normal_8 : decode cX7_normal 8 = .ok (.ifCond .ne 9, 3) := by decide +kernel
theorem dX7_normal_11 : decode cX7_normal 11 = .ok (.aload_n 0, 1) := by decide +kernel
theorem dX7_normal_12 : decode cX7_normal 12 = .ok (.iconst 2, 1) := by decide +kernel
theorem dX7_normal_13 : decode cX7_normal 13 = .ok (.invokevirtual 56, 3) := by decide +kernel
theorem dX7_normal_16 : decode cX7_normal 16 = .ok (.ireturn, 1) := by decide +kernel
theorem dX7_normal_17 : decode cX7_normal 17 = .ok (.aload_n 0, 1) := by decide +kernel
theorem dX7_normal_18 : decode cX7_normal 18 = .ok (.getfield 19, 3) := by decide +kernel
theorem dX7_normal_21 : decode cX7_normal 21 = .ok (.getfield 95, 3) := by decide +kernel
theorem dX7_normal_24 : decode cX7_normal 24 = .ok (.ifCond .ne 9, 3) := by decide +kernel
theorem dX7_normal_27 : decode cX7_normal 27 = .ok (.aload_n 0, 1) := by decide +kernel
theorem dX7_normal_28 : decode cX7_normal 28 = .ok (.iconst 5, 1) := by decide +kernel
theorem dX7_normal_29 : decode cX7_normal 29 = .ok (.invokevirtual 56, 3) := by decide +kernel
theorem dX7_normal_32 : decode cX7_normal 32 = .ok (.ireturn, 1) := by decide +kernel
theorem dX7_normal_33 : decode cX7_normal 33 = .ok (.aload_n 0, 1) := by decide +kernel
theorem dX7_normal_34 : decode cX7_normal 34 = .ok (.aload_n 0, 1) := by decide +kernel
theorem dX7_normal_35 : decode cX7_normal 35 = .ok (.getfield 19, 3) := by decide +kernel
theorem dX7_normal_38 : decode cX7_normal 38 = .ok (.iload_n 1, 1) := by decide +kernel
theorem dX7_normal_39 : decode cX7_normal 39 = .ok (.invokevirtual 286, 3) := by decide +kernel
theorem dX7_normal_42 : decode cX7_normal 42 = .ok (.ifCond .eq 7, 3) := by decide +kernel
theorem dX7_normal_45 : decode cX7_normal 45 = .ok (.iconst 1, 1) := by decide +kernel
theorem dX7_normal_46 : decode cX7_normal 46 = .ok (.goto 4, 3) := by decide +kernel
theorem dX7_normal_49 : decode cX7_normal 49 = .ok (.iconst 0, 1) := by decide +kernel
theorem dX7_normal_50 : decode cX7_normal 50 = .ok (.invokevirtual 86, 3) := by decide +kernel
theorem dX7_normal_53 : decode cX7_normal 53 = .ok (.ireturn, 1) := by decide +kernel
theorem dX7_spare_0 : decode cX7_spare 0 = .ok (.aload_n 0, 1) := by decide +kernel
theorem dX7_spare_1 : decode cX7_spare 1 = .ok (.getfield 19, 3) := by decide +kernel
theorem dX7_spare_4 : decode cX7_spare 4 = .ok (.getfield 95, 3) := by decide +kernel
theorem dX7_spare_7 : decode cX7_spare 7 = .ok (.ifCond .ne 9, 3) := by decide +kernel
theorem dX7_spare_10 : decode cX7_spare 10 = .ok (.aload_n 0, 1) := by decide +kernel
theorem dX7_spare_11 : decode cX7_spare 11 = .ok (.iconst 5, 1) := by decide +kernel
theorem dX7_spare_12 : decode cX7_spare 12 = .ok (.invokevirtual 56, 3) := by decide +kernel
theorem dX7_spare_15 : decode cX7_spare 15 = .ok (.ireturn, 1) := by decide +kernel
theorem dX7_spare_16 : decode cX7_spare 16 = .ok (.aload_n 0, 1) := by decide +kernel
theorem dX7_spare_17 : decode cX7_spare 17 = .ok (.aload_n 0, 1) := by decide +kernel
theorem dX7_spare_18 : decode cX7_spare 18 = .ok (.getfield 19, 3) := by decide +kernel
theorem dX7_spare_21 : decode cX7_spare 21 = .ok (.invokevirtual 289, 3) := by decide +kernel
theorem dX7_spare_24 : decode cX7_spare 24 = .ok (.invokevirtual 86, 3) := by decide +kernel
theorem dX7_spare_27 : decode cX7_spare 27 = .ok (.ireturn, 1) := by decide +kernel
theorem dX7_fewest_0 : decode cX7_fewest 0 = .ok (.aload_n 0, 1) := by decide +kernel
theorem dX7_fewest_1 : decode cX7_fewest 1 = .ok (.getfield 19, 3) := by decide +kernel
theorem dX7_fewest_4 : decode cX7_fewest 4 = .ok (.getfield 95, 3) := by decide +kernel
theorem dX7_fewest_7 : decode cX7_fewest 7 = .ok (.ifCond .ne 9, 3) := by decide +kernel
theorem dX7_fewest_10 : decode cX7_fewest 10 = .ok (.aload_n 0, 1) := by decide +kernel
theorem dX7_fewest_11 : decode cX7_fewest 11 = .ok (.iconst 5, 1) := by decide +kernel
theorem dX7_fewest_12 : decode cX7_fewest 12 = .ok (.invokevirtual 56, 3) := by decide +kernel
theorem dX7_fewest_15 : decode cX7_fewest 15 = .ok (.ireturn, 1) := by decide +kernel
theorem dX7_fewest_16 : decode cX7_fewest 16 = .ok (.aload_n 0, 1) := by decide +kernel
theorem dX7_fewest_17 : decode cX7_fewest 17 = .ok (.aload_n 0, 1) := by decide +kernel
theorem dX7_fewest_18 : decode cX7_fewest 18 = .ok (.getfield 19, 3) := by decide +kernel
theorem dX7_fewest_21 : decode cX7_fewest 21 = .ok (.aload_n 0, 1) := by decide +kernel
theorem dX7_fewest_22 : decode cX7_fewest 22 = .ok (.getfield 19, 3) := by decide +kernel
theorem dX7_fewest_25 : decode cX7_fewest 25 = .ok (.invokevirtual 289, 3) := by decide +kernel
theorem dX7_fewest_28 : decode cX7_fewest 28 = .ok (.invokevirtual 292, 3) := by decide +kernel
theorem dX7_fewest_31 : decode cX7_fewest 31 = .ok (.invokevirtual 86, 3) := by decide +kernel
theorem dX7_fewest_34 : decode cX7_fewest 34 = .ok (.ireturn, 1) := by decide +kernel
theorem dX7_holds_0 : decode cX7_holds 0 = .ok (.aload_n 0, 1) := by decide +kernel
theorem dX7_holds_1 : decode cX7_holds 1 = .ok (.getfield 19, 3) := by decide +kernel
theorem dX7_holds_4 : decode cX7_holds 4 = .ok (.iload_n 1, 1) := by decide +kernel
theorem dX7_holds_5 : decode cX7_holds 5 = .ok (.invokevirtual 295, 3) := by decide +kernel
theorem dX7_holds_8 : decode cX7_holds 8 = .ok (.ifCond .ne 9, 3) := by decide +kernel
theorem dX7_holds_11 : decode cX7_holds 11 = .ok (.aload_n 0, 1) := by decide +kernel
theorem dX7_holds_12 : decode cX7_holds 12 = .ok (.iconst 2, 1) := by decide +kernel
theorem dX7_holds_13 : decode cX7_holds 13 = .ok (.invokevirtual 56, 3) := by decide +kernel
theorem dX7_holds_16 : decode cX7_holds 16 = .ok (.ireturn, 1) := by decide +kernel
theorem dX7_holds_17 : decode cX7_holds 17 = .ok (.aload_n 0, 1) := by decide +kernel
theorem dX7_holds_18 : decode cX7_holds 18 = .ok (.aload_n 0, 1) := by decide +kernel
theorem dX7_holds_19 : decode cX7_holds 19 = .ok (.getfield 19, 3) := by decide +kernel
theorem dX7_holds_22 : decode cX7_holds 22 = .ok (.iload_n 1, 1) := by decide +kernel
theorem dX7_holds_23 : decode cX7_holds 23 = .ok (.invokevirtual 298, 3) := by decide +kernel
theorem dX7_holds_26 : decode cX7_holds 26 = .ok (.invokevirtual 86, 3) := by decide +kernel
theorem dX7_holds_29 : decode cX7_holds 29 = .ok (.ireturn, 1) := by decide +kernel
theorem dX7_keeps_0 : decode cX7_keeps 0 = .ok (.aload_n 0, 1) := by decide +kernel
theorem dX7_keeps_1 : decode cX7_keeps 1 = .ok (.getfield 19, 3) := by decide +kernel
theorem dX7_keeps_4 : decode cX7_keeps 4 = .ok (.iload_n 1, 1) := by decide +kernel
theorem dX7_keeps_5 : decode cX7_keeps 5 = .ok (.invokevirtual 295, 3) := by decide +kernel
theorem dX7_keeps_8 : decode cX7_keeps 8 = .ok (.ifCond .ne 9, 3) := by decide +kernel
theorem dX7_keeps_11 : decode cX7_keeps 11 = .ok (.aload_n 0, 1) := by decide +kernel
theorem dX7_keeps_12 : decode cX7_keeps 12 = .ok (.iconst 2, 1) := by decide +kernel
theorem dX7_keeps_13 : decode cX7_keeps 13 = .ok (.invokevirtual 56, 3) := by decide +kernel
theorem dX7_keeps_16 : decode cX7_keeps 16 = .ok (.ireturn, 1) := by decide +kernel
theorem dX7_keeps_17 : decode cX7_keeps 17 = .ok (.aload_n 0, 1) := by decide +kernel
theorem dX7_keeps_18 : decode cX7_keeps 18 = .ok (.invokevirtual 196, 3) := by decide +kernel
theorem dX7_keeps_21 : decode cX7_keeps 21 = .ok (.istore_n 2, 1) := by decide +kernel
theorem dX7_keeps_22 : decode cX7_keeps 22 = .ok (.iload_n 2, 1) := by decide +kernel
theorem dX7_keeps_23 : decode cX7_keeps 23 = .ok (.ifCond .eq 9, 3) := by decide +kernel
theorem dX7_keeps_26 : decode cX7_keeps 26 = .ok (.aload_n 0, 1) := by decide +kernel
theorem dX7_keeps_27 : decode cX7_keeps 27 = .ok (.iload_n 2, 1) := by decide +kernel
theorem dX7_keeps_28 : decode cX7_keeps 28 = .ok (.invokevirtual 56, 3) := by decide +kernel
theorem dX7_keeps_31 : decode cX7_keeps 31 = .ok (.ireturn, 1) := by decide +kernel
theorem dX7_keeps_32 : decode cX7_keeps 32 = .ok (.aload_n 0, 1) := by decide +kernel
theorem dX7_keeps_33 : decode cX7_keeps 33 = .ok (.aload_n 0, 1) := by decide +kernel
theorem dX7_keeps_34 : decode cX7_keeps 34 = .ok (.getfield 19, 3) := by decide +kernel
theorem dX7_keeps_37 : decode cX7_keeps 37 = .ok (.invokevirtual 301, 3) := by decide +kernel
theorem dX7_keeps_40 : decode cX7_keeps 40 = .ok (.iload_n 1, 1) := by decide +kernel
theorem dX7_keeps_41 : decode cX7_keeps 41 = .ok (.invokevirtual 304, 3) := by decide +kernel
theorem dX7_keeps_44 : decode cX7_keeps 44 = .ok (.invokevirtual 86, 3) := by decide +kernel
theorem dX7_keeps_47 : decode cX7_keeps 47 = .ok (.ireturn, 1) := by decide +kernel
theorem dX7_brings_0 : decode cX7_brings 0 = .ok (.aload_n 0, 1) := by decide +kernel
theorem dX7_brings_1 : decode cX7_brings 1 = .ok (.getfield 19, 3) := by decide +kernel
theorem dX7_brings_4 : decode cX7_brings 4 = .ok (.iload_n 1, 1) := by decide +kernel
theorem dX7_brings_5 : decode cX7_brings 5 = .ok (.invokevirtual 295, 3) := by decide +kernel
theorem dX7_brings_8 : decode cX7_brings 8 = .ok (.ifCond .eq 14, 3) := by decide +kernel
theorem dX7_brings_11 : decode cX7_brings 11 = .ok (.aload_n 0, 1) := by decide +kernel
theorem dX7_brings_12 : decode cX7_brings 12 = .ok (.getfield 19, 3) := by decide +kernel
theorem dX7_brings_15 : decode cX7_brings 15 = .ok (.iload_n 2, 1) := by decide +kernel
theorem dX7_brings_16 : decode cX7_brings 16 = .ok (.invokevirtual 295, 3) := by decide +kernel
theorem dX7_brings_19 : decode cX7_brings 19 = .ok (.ifCond .ne 9, 3) := by decide +kernel
theorem dX7_brings_22 : decode cX7_brings 22 = .ok (.aload_n 0, 1) := by decide +kernel
theorem dX7_brings_23 : decode cX7_brings 23 = .ok (.iconst 2, 1) := by decide +kernel
theorem dX7_brings_24 : decode cX7_brings 24 = .ok (.invokevirtual 56, 3) := by decide +kernel
theorem dX7_brings_27 : decode cX7_brings 27 = .ok (.ireturn, 1) := by decide +kernel
theorem dX7_brings_28 : decode cX7_brings 28 = .ok (.aload_n 0, 1) := by decide +kernel
theorem dX7_brings_29 : decode cX7_brings 29 = .ok (.invokevirtual 196, 3) := by decide +kernel
theorem dX7_brings_32 : decode cX7_brings 32 = .ok (.istore_n 3, 1) := by decide +kernel
theorem dX7_brings_33 : decode cX7_brings 33 = .ok (.iload_n 3, 1) := by decide +kernel
theorem dX7_brings_34 : decode cX7_brings 34 = .ok (.ifCond .eq 9, 3) := by decide +kernel
theorem dX7_brings_37 : decode cX7_brings 37 = .ok (.aload_n 0, 1) := by decide +kernel
theorem dX7_brings_38 : decode cX7_brings 38 = .ok (.iload_n 3, 1) := by decide +kernel
theorem dX7_brings_39 : decode cX7_brings 39 = .ok (.invokevirtual 56, 3) := by decide +kernel
theorem dX7_brings_42 : decode cX7_brings 42 = .ok (.ireturn, 1) := by decide +kernel
theorem dX7_brings_43 : decode cX7_brings 43 = .ok (.aload_n 0, 1) := by decide +kernel
theorem dX7_brings_44 : decode cX7_brings 44 = .ok (.getfield 19, 3) := by decide +kernel
theorem dX7_brings_47 : decode cX7_brings 47 = .ok (.invokevirtual 301, 3) := by decide +kernel
theorem dX7_brings_50 : decode cX7_brings 50 = .ok (.iload_n 1, 1) := by decide +kernel
theorem dX7_brings_51 : decode cX7_brings 51 = .ok (.iload_n 2, 1) := by decide +kernel
theorem dX7_brings_52 : decode cX7_brings 52 = .ok (.invokevirtual 307, 3) := by decide +kernel
theorem dX7_brings_55 : decode cX7_brings 55 = .ok (.istore 4, 2) := by decide +kernel
theorem dX7_brings_57 : decode cX7_brings 57 = .ok (.iload 4, 2) := by decide +kernel
theorem dX7_brings_59 : decode cX7_brings 59 = .ok (.ifCond .ge 11, 3) := by decide +kernel
theorem dX7_brings_62 : decode cX7_brings 62 = .ok (.aload_n 0, 1) := by decide +kernel
theorem dX7_brings_63 : decode cX7_brings 63 = .ok (.iconst 5, 1) := by decide +kernel
theorem dX7_brings_64 : decode cX7_brings 64 = .ok (.invokevirtual 56, 3) := by decide +kernel
theorem dX7_brings_67 : decode cX7_brings 67 = .ok (.goto 9, 3) := by decide +kernel
theorem dX7_brings_70 : decode cX7_brings 70 = .ok (.aload_n 0, 1) := by decide +kernel
theorem dX7_brings_71 : decode cX7_brings 71 = .ok (.iload 4, 2) := by decide +kernel
theorem dX7_brings_73 : decode cX7_brings 73 = .ok (.invokevirtual 86, 3) := by decide +kernel
theorem dX7_brings_76 : decode cX7_brings 76 = .ok (.ireturn, 1) := by decide +kernel
theorem dX7_block_0 : decode cX7_block 0 = .ok (.aload_n 0, 1) := by decide +kernel
theorem dX7_block_1 : decode cX7_block 1 = .ok (.getfield 19, 3) := by decide +kernel
theorem dX7_block_4 : decode cX7_block 4 = .ok (.iload_n 1, 1) := by decide +kernel
theorem dX7_block_5 : decode cX7_block 5 = .ok (.invokevirtual 117, 3) := by decide +kernel
theorem dX7_block_8 : decode cX7_block 8 = .ok (.ifCond .eq 14, 3) := by decide +kernel
theorem dX7_block_11 : decode cX7_block 11 = .ok (.aload_n 0, 1) := by decide +kernel
theorem dX7_block_12 : decode cX7_block 12 = .ok (.getfield 19, 3) := by decide +kernel
theorem dX7_block_15 : decode cX7_block 15 = .ok (.iload_n 2, 1) := by decide +kernel
theorem dX7_block_16 : decode cX7_block 16 = .ok (.invokevirtual 117, 3) := by decide +kernel
theorem dX7_block_19 : decode cX7_block 19 = .ok (.ifCond .ne 9, 3) := by decide +kernel
theorem dX7_block_22 : decode cX7_block 22 = .ok (.aload_n 0, 1) := by decide +kernel
theorem dX7_block_23 : decode cX7_block 23 = .ok (.iconst 2, 1) := by decide +kernel
theorem dX7_block_24 : decode cX7_block 24 = .ok (.invokevirtual 56, 3) := by decide +kernel
theorem dX7_block_27 : decode cX7_block 27 = .ok (.ireturn, 1) := by decide +kernel
theorem dX7_block_28 : decode cX7_block 28 = .ok (.iload_n 1, 1) := by decide +kernel
theorem dX7_block_29 : decode cX7_block 29 = .ok (.iload_n 2, 1) := by decide +kernel
theorem dX7_block_30 : decode cX7_block 30 = .ok (.if_icmp .ne 9, 3) := by decide +kernel
theorem dX7_block_33 : decode cX7_block 33 = .ok (.aload_n 0, 1) := by decide +kernel
theorem dX7_block_34 : decode cX7_block 34 = .ok (.iconst 4, 1) := by decide +kernel
theorem dX7_block_35 : decode cX7_block 35 = .ok (.invokevirtual 56, 3) := by decide +kernel
theorem dX7_block_38 : decode cX7_block 38 = .ok (.ireturn, 1) := by decide +kernel
theorem dX7_block_39 : decode cX7_block 39 = .ok (.aload_n 0, 1) := by decide +kernel
theorem dX7_block_40 : decode cX7_block 40 = .ok (.aload_n 0, 1) := by decide +kernel
theorem dX7_block_41 : decode cX7_block 41 = .ok (.getfield 19, 3) := by decide +kernel
theorem dX7_block_44 : decode cX7_block 44 = .ok (.iload_n 1, 1) := by decide +kernel
theorem dX7_block_45 : decode cX7_block 45 = .ok (.iload_n 2, 1) := by decide +kernel
theorem dX7_block_46 : decode cX7_block 46 = .ok (.invokevirtual 310, 3) := by decide +kernel
theorem dX7_block_49 : decode cX7_block 49 = .ok (.invokevirtual 86, 3) := by decide +kernel
theorem dX7_block_52 : decode cX7_block 52 = .ok (.ireturn, 1) := by decide +kernel
theorem dX7_anywhere_0 : decode cX7_anywhere 0 = .ok (.aload_n 0, 1) := by decide +kernel
theorem dX7_anywhere_1 : decode cX7_anywhere 1 = .ok (.getfield 19, 3) := by decide +kernel
theorem dX7_anywhere_4 : decode cX7_anywhere 4 = .ok (.getfield 95, 3) := by decide +kernel
theorem dX7_anywhere_7 : decode cX7_anywhere 7 = .ok (.ifCond .ne 9, 3) := by decide +kernel
theorem dX7_anywhere_10 : decode cX7_anywhere 10 = .ok (.aload_n 0, 1) := by decide +kernel
theorem dX7_anywhere_11 : decode cX7_anywhere 11 = .ok (.iconst 5, 1) := by decide +kernel
theorem dX7_anywhere_12 : decode cX7_anywhere 12 = .ok (.invokevirtual 56, 3) := by decide +kernel
theorem dX7_anywhere_15 : decode cX7_anywhere 15 = .ok (.ireturn, 1) := by decide +kernel
theorem dX7_anywhere_16 : decode cX7_anywhere 16 = .ok (.aload_n 0, 1) := by decide +kernel
theorem dX7_anywhere_17 : decode cX7_anywhere 17 = .ok (.aload_n 0, 1) := by decide +kernel
theorem dX7_anywhere_18 : decode cX7_anywhere 18 = .ok (.getfield 19, 3) := by decide +kernel
theorem dX7_anywhere_21 : decode cX7_anywhere 21 = .ok (.getfield 163, 3) := by decide +kernel
theorem dX7_anywhere_24 : decode cX7_anywhere 24 = .ok (.invokevirtual 313, 3) := by decide +kernel
theorem dX7_anywhere_27 : decode cX7_anywhere 27 = .ok (.invokevirtual 86, 3) := by decide +kernel
theorem dX7_anywhere_30 : decode cX7_anywhere 30 = .ok (.ireturn, 1) := by decide +kernel
theorem dX7_fixing_0 : decode cX7_fixing 0 = .ok (.iload_n 1, 1) := by decide +kernel
theorem dX7_fixing_1 : decode cX7_fixing 1 = .ok (.ifCond .lt 9, 3) := by decide +kernel
theorem dX7_fixing_4 : decode cX7_fixing 4 = .ok (.iload_n 1, 1) := by decide +kernel
theorem dX7_fixing_5 : decode cX7_fixing 5 = .ok (.bipush 10, 2) := by decide +kernel
theorem dX7_fixing_7 : decode cX7_fixing 7 = .ok (.if_icmp .le 9, 3) := by decide +kernel
theorem dX7_fixing_10 : decode cX7_fixing 10 = .ok (.aload_n 0, 1) := by decide +kernel
theorem dX7_fixing_11 : decode cX7_fixing 11 = .ok (.iconst 1, 1) := by decide +kernel
theorem dX7_fixing_12 : decode cX7_fixing 12 = .ok (.invokevirtual 56, 3) := by decide +kernel
theorem dX7_fixing_15 : decode cX7_fixing 15 = .ok (.ireturn, 1) := by decide +kernel
theorem dX7_fixing_16 : decode cX7_fixing 16 = .ok (.aload_n 0, 1) := by decide +kernel
theorem dX7_fixing_17 : decode cX7_fixing 17 = .ok (.invokevirtual 196, 3) := by decide +kernel
theorem dX7_fixing_20 : decode cX7_fixing 20 = .ok (.istore_n 2, 1) := by decide +kernel
theorem dX7_fixing_21 : decode cX7_fixing 21 = .ok (.iload_n 2, 1) := by decide +kernel
theorem dX7_fixing_22 : decode cX7_fixing 22 = .ok (.ifCond .eq 9, 3) := by decide +kernel
theorem dX7_fixing_25 : decode cX7_fixing 25 = .ok (.aload_n 0, 1) := by decide +kernel
theorem dX7_fixing_26 : decode cX7_fixing 26 = .ok (.iload_n 2, 1) := by decide +kernel
theorem dX7_fixing_27 : decode cX7_fixing 27 = .ok (.invokevirtual 56, 3) := by decide +kernel
theorem dX7_fixing_30 : decode cX7_fixing 30 = .ok (.ireturn, 1) := by decide +kernel
theorem dX7_fixing_31 : decode cX7_fixing 31 = .ok (.aload_n 0, 1) := by decide +kernel
theorem dX7_fixing_32 : decode cX7_fixing 32 = .ok (.aload_n 0, 1) := by decide +kernel
theorem dX7_fixing_33 : decode cX7_fixing 33 = .ok (.getfield 19, 3) := by decide +kernel
theorem dX7_fixing_36 : decode cX7_fixing 36 = .ok (.invokevirtual 316, 3) := by decide +kernel
theorem dX7_fixing_39 : decode cX7_fixing 39 = .ok (.iload_n 1, 1) := by decide +kernel
theorem dX7_fixing_40 : decode cX7_fixing 40 = .ok (.invokevirtual 319, 3) := by decide +kernel
theorem dX7_fixing_43 : decode cX7_fixing 43 = .ok (.invokevirtual 86, 3) := by decide +kernel
theorem dX7_fixing_46 : decode cX7_fixing 46 = .ok (.ireturn, 1) := by decide +kernel
theorem dX7_colours_0 : decode cX7_colours 0 = .ok (.iload_n 1, 1) := by decide +kernel
theorem dX7_colours_1 : decode cX7_colours 1 = .ok (.iconst 1, 1) := by decide +kernel
theorem dX7_colours_2 : decode cX7_colours 2 = .ok (.if_icmp .lt 8, 3) := by decide +kernel
theorem dX7_colours_5 : decode cX7_colours 5 = .ok (.iload_n 1, 1) := by decide +kernel
theorem dX7_colours_6 : decode cX7_colours 6 = .ok (.iconst 5, 1) := by decide +kernel
theorem dX7_colours_7 : decode cX7_colours 7 = .ok (.if_icmp .le 10, 3) := by decide +kernel
theorem dX7_colours_10 : decode cX7_colours 10 = .ok (.aload_n 0, 1) := by decide +kernel
theorem dX7_colours_11 : decode cX7_colours 11 = .ok (.iconst 1, 1) := by decide +kernel
theorem dX7_colours_12 : decode cX7_colours 12 = .ok (.invokevirtual 56, 3) := by decide +kernel
theorem dX7_colours_15 : decode cX7_colours 15 = .ok (.i2l, 1) := by decide +kernel
theorem dX7_colours_16 : decode cX7_colours 16 = .ok (.lreturn, 1) := by decide +kernel
theorem dX7_colours_17 : decode cX7_colours 17 = .ok (.aload_n 0, 1) := by decide +kernel
theorem dX7_colours_18 : decode cX7_colours 18 = .ok (.invokevirtual 196, 3) := by decide +kernel
theorem dX7_colours_21 : decode cX7_colours 21 = .ok (.istore_n 2, 1) := by decide +kernel
theorem dX7_colours_22 : decode cX7_colours 22 = .ok (.iload_n 2, 1) := by decide +kernel
theorem dX7_colours_23 : decode cX7_colours 23 = .ok (.ifCond .eq 10, 3) := by decide +kernel
theorem dX7_colours_26 : decode cX7_colours 26 = .ok (.aload_n 0, 1) := by decide +kernel
theorem dX7_colours_27 : decode cX7_colours 27 = .ok (.iload_n 2, 1) := by decide +kernel
theorem dX7_colours_28 : decode cX7_colours 28 = .ok (.invokevirtual 56, 3) := by decide +kernel
theorem dX7_colours_31 : decode cX7_colours 31 = .ok (.i2l, 1) := by decide +kernel
theorem dX7_colours_32 : decode cX7_colours 32 = .ok (.lreturn, 1) := by decide +kernel
theorem dX7_colours_33 : decode cX7_colours 33 = .ok (.aload_n 0, 1) := by decide +kernel
theorem dX7_colours_34 : decode cX7_colours 34 = .ok (.iconst 0, 1) := by decide +kernel
theorem dX7_colours_35 : decode cX7_colours 35 = .ok (.putfield 42, 3) := by decide +kernel
theorem dX7_colours_38 : decode cX7_colours 38 = .ok (.aload_n 0, 1) := by decide +kernel
theorem dX7_colours_39 : decode cX7_colours 39 = .ok (.getfield 19, 3) := by decide +kernel
theorem dX7_colours_42 : decode cX7_colours 42 = .ok (.invokevirtual 316, 3) := by decide +kernel
theorem dX7_colours_45 : decode cX7_colours 45 = .ok (.iload_n 1, 1) := by decide +kernel
theorem dX7_colours_46 : decode cX7_colours 46 = .ok (.invokevirtual 322, 3) := by decide +kernel
theorem dX7_colours_49 : decode cX7_colours 49 = .ok (.lreturn, 1) := by decide +kernel
theorem dX7_typed_0 : decode cX7_typed 0 = .ok (.aload_n 0, 1) := by decide +kernel
theorem dX7_typed_1 : decode cX7_typed 1 = .ok (.lload_n 1, 1) := by decide +kernel
theorem dX7_typed_2 : decode cX7_typed 2 = .ok (.invokevirtual 114, 3) := by decide +kernel
theorem dX7_typed_5 : decode cX7_typed 5 = .ok (.lstore_n 3, 1) := by decide +kernel
theorem dX7_typed_6 : decode cX7_typed 6 = .ok (.lload_n 3, 1) := by decide +kernel
theorem dX7_typed_7 : decode cX7_typed 7 = .ok (.lconst 0, 1) := by decide +kernel
theorem dX7_typed_8 : decode cX7_typed 8 = .ok (.lcmp, 1) := by decide +kernel
theorem dX7_typed_9 : decode cX7_typed 9 = .ok (.ifCond .ge 9, 3) := by decide +kernel
theorem dX7_typed_12 : decode cX7_typed 12 = .ok (.aload_n 0, 1) := by decide +kernel
theorem dX7_typed_13 : decode cX7_typed 13 = .ok (.iconst 1, 1) := by decide +kernel
theorem dX7_typed_14 : decode cX7_typed 14 = .ok (.invokevirtual 56, 3) := by decide +kernel
theorem dX7_typed_17 : decode cX7_typed 17 = .ok (.ireturn, 1) := by decide +kernel
theorem dX7_typed_18 : decode cX7_typed 18 = .ok (.aload_n 0, 1) := by decide +kernel
theorem dX7_typed_19 : decode cX7_typed 19 = .ok (.invokevirtual 196, 3) := by decide +kernel
theorem dX7_typed_22 : decode cX7_typed 22 = .ok (.istore 5, 2) := by decide +kernel
theorem dX7_typed_24 : decode cX7_typed 24 = .ok (.iload 5, 2) := by decide +kernel
theorem dX7_typed_26 : decode cX7_typed 26 = .ok (.ifCond .eq 10, 3) := by decide +kernel
theorem dX7_typed_29 : decode cX7_typed 29 = .ok (.aload_n 0, 1) := by decide +kernel
theorem dX7_typed_30 : decode cX7_typed 30 = .ok (.iload 5, 2) := by decide +kernel
theorem dX7_typed_32 : decode cX7_typed 32 = .ok (.invokevirtual 56, 3) := by decide +kernel
theorem dX7_typed_35 : decode cX7_typed 35 = .ok (.ireturn, 1) := by decide +kernel
theorem dX7_typed_36 : decode cX7_typed 36 = .ok (.aload_n 0, 1) := by decide +kernel
theorem dX7_typed_37 : decode cX7_typed 37 = .ok (.aload_n 0, 1) := by decide +kernel
theorem dX7_typed_38 : decode cX7_typed 38 = .ok (.getfield 19, 3) := by decide +kernel
theorem dX7_typed_41 : decode cX7_typed 41 = .ok (.invokevirtual 316, 3) := by decide +kernel
theorem dX7_typed_44 : decode cX7_typed 44 = .ok (.lload_n 3, 1) := by decide +kernel
theorem dX7_typed_45 : decode cX7_typed 45 = .ok (.aload_n 0, 1) := by decide +kernel
theorem dX7_typed_46 : decode cX7_typed 46 = .ok (.getfield 19, 3) := by decide +kernel
theorem dX7_typed_49 : decode cX7_typed 49 = .ok (.getfield 95, 3) := by decide +kernel
theorem dX7_typed_52 : decode cX7_typed 52 = .ok (.invokestatic 136, 3) := by decide +kernel
theorem dX7_typed_55 : decode cX7_typed 55 = .ok (.invokevirtual 325, 3) := by decide +kernel
theorem dX7_typed_58 : decode cX7_typed 58 = .ok (.invokevirtual 86, 3) := by decide +kernel
theorem dX7_typed_61 : decode cX7_typed 61 = .ok (.ireturn, 1) := by decide +kernel
theorem dX7_root_0 : decode cX7_root 0 = .ok (.aload_n 0, 1) := by decide +kernel
theorem dX7_root_1 : decode cX7_root 1 = .ok (.lload_n 1, 1) := by decide +kernel
theorem dX7_root_2 : decode cX7_root 2 = .ok (.invokevirtual 114, 3) := by decide +kernel
theorem dX7_root_5 : decode cX7_root 5 = .ok (.lstore 4, 2) := by decide +kernel
theorem dX7_root_7 : decode cX7_root 7 = .ok (.lload 4, 2) := by decide +kernel
theorem dX7_root_9 : decode cX7_root 9 = .ok (.lconst 0, 1) := by decide +kernel
theorem dX7_root_10 : decode cX7_root 10 = .ok (.lcmp, 1) := by decide +kernel
theorem dX7_root_11 : decode cX7_root 11 = .ok (.ifCond .lt 15, 3) := by decide +kernel
theorem dX7_root_14 : decode cX7_root 14 = .ok (.iload_n 3, 1) := by decide +kernel
theorem dX7_root_15 : decode cX7_root 15 = .ok (.iconst 1, 1) := by decide +kernel
theorem dX7_root_16 : decode cX7_root 16 = .ok (.if_icmp .lt 10, 3) := by decide +kernel
theorem dX7_root_19 : decode cX7_root 19 = .ok (.iload_n 3, 1) := by decide +kernel
theorem dX7_root_20 : decode cX7_root 20 = .ok (.sipush 1000, 3) := by decide +kernel
theorem dX7_root_23 : decode cX7_root 23 = .ok (.if_icmp .le 9, 3) := by decide +kernel
theorem dX7_root_26 : decode cX7_root 26 = .ok (.aload_n 0, 1) := by decide +kernel
theorem dX7_root_27 : decode cX7_root 27 = .ok (.iconst 1, 1) := by decide +kernel
theorem dX7_root_28 : decode cX7_root 28 = .ok (.invokevirtual 56, 3) := by decide +kernel
theorem dX7_root_31 : decode cX7_root 31 = .ok (.ireturn, 1) := by decide +kernel
theorem dX7_root_32 : decode cX7_root 32 = .ok (.aload_n 0, 1) := by decide +kernel
theorem dX7_root_33 : decode cX7_root 33 = .ok (.invokevirtual 196, 3) := by decide +kernel
theorem dX7_root_36 : decode cX7_root 36 = .ok (.istore 6, 2) := by decide +kernel
theorem dX7_root_38 : decode cX7_root 38 = .ok (.iload 6, 2) := by decide +kernel
theorem dX7_root_40 : decode cX7_root 40 = .ok (.ifCond .eq 10, 3) := by decide +kernel
theorem dX7_root_43 : decode cX7_root 43 = .ok (.aload_n 0, 1) := by decide +kernel
theorem dX7_root_44 : decode cX7_root 44 = .ok (.iload 6, 2) := by decide +kernel
theorem dX7_root_46 : decode cX7_root 46 = .ok (.invokevirtual 56, 3) := by decide +kernel
theorem dX7_root_49 : decode cX7_root 49 = .ok (.ireturn, 1) := by decide +kernel
theorem dX7_root_50 : decode cX7_root 50 = .ok (.aload_n 0, 1) := by decide +kernel
theorem dX7_root_51 : decode cX7_root 51 = .ok (.getfield 19, 3) := by decide +kernel
theorem dX7_root_54 : decode cX7_root 54 = .ok (.invokevirtual 301, 3) := by decide +kernel
theorem dX7_root_57 : decode cX7_root 57 = .ok (.lload 4, 2) := by decide +kernel
theorem dX7_root_59 : decode cX7_root 59 = .ok (.iload_n 3, 1) := by decide +kernel
theorem dX7_root_60 : decode cX7_root 60 = .ok (.invokevirtual 328, 3) := by decide +kernel
theorem dX7_root_63 : decode cX7_root 63 = .ok (.istore 7, 2) := by decide +kernel
theorem dX7_root_65 : decode cX7_root 65 = .ok (.iload 7, 2) := by decide +kernel
theorem dX7_root_67 : decode cX7_root 67 = .ok (.ifCond .ge 11, 3) := by decide +kernel
theorem dX7_root_70 : decode cX7_root 70 = .ok (.aload_n 0, 1) := by decide +kernel
theorem dX7_root_71 : decode cX7_root 71 = .ok (.iconst 5, 1) := by decide +kernel
theorem dX7_root_72 : decode cX7_root 72 = .ok (.invokevirtual 56, 3) := by decide +kernel
theorem dX7_root_75 : decode cX7_root 75 = .ok (.goto 9, 3) := by decide +kernel
theorem dX7_root_78 : decode cX7_root 78 = .ok (.aload_n 0, 1) := by decide +kernel
theorem dX7_root_79 : decode cX7_root 79 = .ok (.iload 7, 2) := by decide +kernel
theorem dX7_root_81 : decode cX7_root 81 = .ok (.invokevirtual 86, 3) := by decide +kernel
theorem dX7_root_84 : decode cX7_root 84 = .ok (.ireturn, 1) := by decide +kernel
theorem dX7_slightest_0 : decode cX7_slightest 0 = .ok (.aload_n 0, 1) := by decide +kernel
theorem dX7_slightest_1 : decode cX7_slightest 1 = .ok (.invokevirtual 196, 3) := by decide +kernel
theorem dX7_slightest_4 : decode cX7_slightest 4 = .ok (.istore_n 1, 1) := by decide +kernel
theorem dX7_slightest_5 : decode cX7_slightest 5 = .ok (.iload_n 1, 1) := by decide +kernel
theorem dX7_slightest_6 : decode cX7_slightest 6 = .ok (.ifCond .eq 9, 3) := by decide +kernel
theorem dX7_slightest_9 : decode cX7_slightest 9 = .ok (.aload_n 0, 1) := by decide +kernel
theorem dX7_slightest_10 : decode cX7_slightest 10 = .ok (.iload_n 1, 1) := by decide +kernel
theorem dX7_slightest_11 : decode cX7_slightest 11 = .ok (.invokevirtual 56, 3) := by decide +kernel
theorem dX7_slightest_14 : decode cX7_slightest 14 = .ok (.ireturn, 1) := by decide +kernel
theorem dX7_slightest_15 : decode cX7_slightest 15 = .ok (.aload_n 0, 1) := by decide +kernel
theorem dX7_slightest_16 : decode cX7_slightest 16 = .ok (.getfield 19, 3) := by decide +kernel
theorem dX7_slightest_19 : decode cX7_slightest 19 = .ok (.invokevirtual 316, 3) := by decide +kernel
theorem dX7_slightest_22 : decode cX7_slightest 22 = .ok (.invokevirtual 331, 3) := by decide +kernel
theorem dX7_slightest_25 : decode cX7_slightest 25 = .ok (.istore_n 2, 1) := by decide +kernel
theorem dX7_slightest_26 : decode cX7_slightest 26 = .ok (.iload_n 2, 1) := by decide +kernel
theorem dX7_slightest_27 : decode cX7_slightest 27 = .ok (.ifCond .ne 11, 3) := by decide +kernel
theorem dX7_slightest_30 : decode cX7_slightest 30 = .ok (.aload_n 0, 1) := by decide +kernel
theorem dX7_slightest_31 : decode cX7_slightest 31 = .ok (.iconst 5, 1) := by decide +kernel
theorem dX7_slightest_32 : decode cX7_slightest 32 = .ok (.invokevirtual 56, 3) := by decide +kernel
theorem dX7_slightest_35 : decode cX7_slightest 35 = .ok (.goto 8, 3) := by decide +kernel
theorem dX7_slightest_38 : decode cX7_slightest 38 = .ok (.aload_n 0, 1) := by decide +kernel
theorem dX7_slightest_39 : decode cX7_slightest 39 = .ok (.iload_n 2, 1) := by decide +kernel
theorem dX7_slightest_40 : decode cX7_slightest 40 = .ok (.invokevirtual 86, 3) := by decide +kernel
theorem dX7_slightest_43 : decode cX7_slightest 43 = .ok (.ireturn, 1) := by decide +kernel
theorem dX7_ofOrder_0 : decode cX7_ofOrder 0 = .ok (.iload_n 1, 1) := by decide +kernel
theorem dX7_ofOrder_1 : decode cX7_ofOrder 1 = .ok (.iconst 1, 1) := by decide +kernel
theorem dX7_ofOrder_2 : decode cX7_ofOrder 2 = .ok (.if_icmp .ge 9, 3) := by decide +kernel
theorem dX7_ofOrder_5 : decode cX7_ofOrder 5 = .ok (.aload_n 0, 1) := by decide +kernel
theorem dX7_ofOrder_6 : decode cX7_ofOrder 6 = .ok (.iconst 1, 1) := by decide +kernel
theorem dX7_ofOrder_7 : decode cX7_ofOrder 7 = .ok (.invokevirtual 56, 3) := by decide +kernel
theorem dX7_ofOrder_10 : decode cX7_ofOrder 10 = .ok (.ireturn, 1) := by decide +kernel
theorem dX7_ofOrder_11 : decode cX7_ofOrder 11 = .ok (.aload_n 0, 1) := by decide +kernel
theorem dX7_ofOrder_12 : decode cX7_ofOrder 12 = .ok (.invokevirtual 196, 3) := by decide +kernel
theorem dX7_ofOrder_15 : decode cX7_ofOrder 15 = .ok (.istore_n 2, 1) := by decide +kernel
theorem dX7_ofOrder_16 : decode cX7_ofOrder 16 = .ok (.iload_n 2, 1) := by decide +kernel
theorem dX7_ofOrder_17 : decode cX7_ofOrder 17 = .ok (.ifCond .eq 9, 3) := by decide +kernel
theorem dX7_ofOrder_20 : decode cX7_ofOrder 20 = .ok (.aload_n 0, 1) := by decide +kernel
theorem dX7_ofOrder_21 : decode cX7_ofOrder 21 = .ok (.iload_n 2, 1) := by decide +kernel
theorem dX7_ofOrder_22 : decode cX7_ofOrder 22 = .ok (.invokevirtual 56, 3) := by decide +kernel
theorem dX7_ofOrder_25 : decode cX7_ofOrder 25 = .ok (.ireturn, 1) := by decide +kernel
theorem dX7_ofOrder_26 : decode cX7_ofOrder 26 = .ok (.aload_n 0, 1) := by decide +kernel
theorem dX7_ofOrder_27 : decode cX7_ofOrder 27 = .ok (.getfield 19, 3) := by decide +kernel
theorem dX7_ofOrder_30 : decode cX7_ofOrder 30 = .ok (.invokevirtual 316, 3) := by decide +kernel
theorem dX7_ofOrder_33 : decode cX7_ofOrder 33 = .ok (.iload_n 1, 1) := by decide +kernel
theorem dX7_ofOrder_34 : decode cX7_ofOrder 34 = .ok (.invokevirtual 334, 3) := by decide +kernel
theorem dX7_ofOrder_37 : decode cX7_ofOrder 37 = .ok (.istore_n 3, 1) := by decide +kernel
theorem dX7_ofOrder_38 : decode cX7_ofOrder 38 = .ok (.iload_n 3, 1) := by decide +kernel
theorem dX7_ofOrder_39 : decode cX7_ofOrder 39 = .ok (.ifCond .ne 11, 3) := by decide +kernel
theorem dX7_ofOrder_42 : decode cX7_ofOrder 42 = .ok (.aload_n 0, 1) := by decide +kernel
theorem dX7_ofOrder_43 : decode cX7_ofOrder 43 = .ok (.iconst 5, 1) := by decide +kernel
theorem dX7_ofOrder_44 : decode cX7_ofOrder 44 = .ok (.invokevirtual 56, 3) := by decide +kernel
theorem dX7_ofOrder_47 : decode cX7_ofOrder 47 = .ok (.goto 8, 3) := by decide +kernel
theorem dX7_ofOrder_50 : decode cX7_ofOrder 50 = .ok (.aload_n 0, 1) := by decide +kernel
theorem dX7_ofOrder_51 : decode cX7_ofOrder 51 = .ok (.iload_n 3, 1) := by decide +kernel
theorem dX7_ofOrder_52 : decode cX7_ofOrder 52 = .ok (.invokevirtual 86, 3) := by decide +kernel
theorem dX7_ofOrder_55 : decode cX7_ofOrder 55 = .ok (.ireturn, 1) := by decide +kernel
theorem dX7_turn_0 : decode cX7_turn 0 = .ok (.aload_n 0, 1) := by decide +kernel
theorem dX7_turn_1 : decode cX7_turn 1 = .ok (.getfield 19, 3) := by decide +kernel
theorem dX7_turn_4 : decode cX7_turn 4 = .ok (.iload_n 1, 1) := by decide +kernel
theorem dX7_turn_5 : decode cX7_turn 5 = .ok (.invokevirtual 104, 3) := by decide +kernel
theorem dX7_turn_8 : decode cX7_turn 8 = .ok (.ifCond .ne 9, 3) := by decide +kernel
theorem dX7_turn_11 : decode cX7_turn 11 = .ok (.aload_n 0, 1) := by decide +kernel
theorem dX7_turn_12 : decode cX7_turn 12 = .ok (.iconst 2, 1) := by decide +kernel
theorem dX7_turn_13 : decode cX7_turn 13 = .ok (.invokevirtual 56, 3) := by decide +kernel
theorem dX7_turn_16 : decode cX7_turn 16 = .ok (.ireturn, 1) := by decide +kernel
theorem dX7_turn_17 : decode cX7_turn 17 = .ok (.aload_n 0, 1) := by decide +kernel
theorem dX7_turn_18 : decode cX7_turn 18 = .ok (.invokevirtual 337, 3) := by decide +kernel
theorem dX7_turn_21 : decode cX7_turn 21 = .ok (.aload_n 0, 1) := by decide +kernel
theorem dX7_turn_22 : decode cX7_turn 22 = .ok (.aload_n 0, 1) := by decide +kernel
theorem dX7_turn_23 : decode cX7_turn 23 = .ok (.getfield 38, 3) := by decide +kernel
theorem dX7_turn_26 : decode cX7_turn 26 = .ok (.aload_n 0, 1) := by decide +kernel
theorem dX7_turn_27 : decode cX7_turn 27 = .ok (.getfield 19, 3) := by decide +kernel
theorem dX7_turn_30 : decode cX7_turn 30 = .ok (.iload_n 1, 1) := by decide +kernel
theorem dX7_turn_31 : decode cX7_turn 31 = .ok (.invokevirtual 107, 3) := by decide +kernel
theorem dX7_turn_34 : decode cX7_turn 34 = .ok (.aload_n 0, 1) := by decide +kernel
theorem dX7_turn_35 : decode cX7_turn 35 = .ok (.getfield 19, 3) := by decide +kernel
theorem dX7_turn_38 : decode cX7_turn 38 = .ok (.getfield 95, 3) := by decide +kernel
theorem dX7_turn_41 : decode cX7_turn 41 = .ok (.invokestatic 124, 3) := by decide +kernel
theorem dX7_turn_44 : decode cX7_turn 44 = .ok (.putfield 38, 3) := by decide +kernel
theorem dX7_turn_47 : decode cX7_turn 47 = .ok (.aload_n 0, 1) := by decide +kernel
theorem dX7_turn_48 : decode cX7_turn 48 = .ok (.aload_n 0, 1) := by decide +kernel
theorem dX7_turn_49 : decode cX7_turn 49 = .ok (.getfield 19, 3) := by decide +kernel
theorem dX7_turn_52 : decode cX7_turn 52 = .ok (.getfield 95, 3) := by decide +kernel
theorem dX7_turn_55 : decode cX7_turn 55 = .ok (.aload_n 0, 1) := by decide +kernel
theorem dX7_turn_56 : decode cX7_turn 56 = .ok (.invokevirtual 340, 3) := by decide +kernel
theorem dX7_turn_59 : decode cX7_turn 59 = .ok (.isub, 1) := by decide +kernel
theorem dX7_turn_60 : decode cX7_turn 60 = .ok (.invokevirtual 86, 3) := by decide +kernel
theorem dX7_turn_63 : decode cX7_turn 63 = .ok (.ireturn, 1) := by decide +kernel
theorem dX7_place_0 : decode cX7_place 0 = .ok (.aload_n 0, 1) := by decide +kernel
theorem dX7_place_1 : decode cX7_place 1 = .ok (.lload_n 1, 1) := by decide +kernel
theorem dX7_place_2 : decode cX7_place 2 = .ok (.invokevirtual 114, 3) := by decide +kernel
theorem dX7_place_5 : decode cX7_place 5 = .ok (.lstore_n 3, 1) := by decide +kernel
theorem dX7_place_6 : decode cX7_place 6 = .ok (.lload_n 3, 1) := by decide +kernel
theorem dX7_place_7 : decode cX7_place 7 = .ok (.lconst 0, 1) := by decide +kernel
theorem dX7_place_8 : decode cX7_place 8 = .ok (.lcmp, 1) := by decide +kernel
theorem dX7_place_9 : decode cX7_place 9 = .ok (.ifCond .ge 9, 3) := by decide +kernel
theorem dX7_place_12 : decode cX7_place 12 = .ok (.aload_n 0, 1) := by decide +kernel
theorem dX7_place_13 : decode cX7_place 13 = .ok (.iconst 1, 1) := by decide +kernel
theorem dX7_place_14 : decode cX7_place 14 = .ok (.invokevirtual 56, 3) := by decide +kernel
theorem dX7_place_17 : decode cX7_place 17 = .ok (.ireturn, 1) := by decide +kernel
theorem dX7_place_18 : decode cX7_place 18 = .ok (.lload_n 3, 1) := by decide +kernel
theorem dX7_place_19 : decode cX7_place 19 = .ok (.aload_n 0, 1) := by decide +kernel
theorem dX7_place_20 : decode cX7_place 20 = .ok (.getfield 38, 3) := by decide +kernel
theorem dX7_place_23 : decode cX7_place 23 = .ok (.lcmp, 1) := by decide +kernel
theorem dX7_place_24 : decode cX7_place 24 = .ok (.ifCond .ne 9, 3) := by decide +kernel
theorem dX7_place_27 : decode cX7_place 27 = .ok (.aload_n 0, 1) := by decide +kernel
theorem dX7_place_28 : decode cX7_place 28 = .ok (.iconst 4, 1) := by decide +kernel
theorem dX7_place_29 : decode cX7_place 29 = .ok (.invokevirtual 56, 3) := by decide +kernel
theorem dX7_place_32 : decode cX7_place 32 = .ok (.ireturn, 1) := by decide +kernel
theorem dX7_place_33 : decode cX7_place 33 = .ok (.aload_n 0, 1) := by decide +kernel
theorem dX7_place_34 : decode cX7_place 34 = .ok (.invokevirtual 337, 3) := by decide +kernel
theorem dX7_place_37 : decode cX7_place 37 = .ok (.aload_n 0, 1) := by decide +kernel
theorem dX7_place_38 : decode cX7_place 38 = .ok (.lload_n 3, 1) := by decide +kernel
theorem dX7_place_39 : decode cX7_place 39 = .ok (.putfield 38, 3) := by decide +kernel
theorem dX7_place_42 : decode cX7_place 42 = .ok (.aload_n 0, 1) := by decide +kernel
theorem dX7_place_43 : decode cX7_place 43 = .ok (.aload_n 0, 1) := by decide +kernel
theorem dX7_place_44 : decode cX7_place 44 = .ok (.getfield 19, 3) := by decide +kernel
theorem dX7_place_47 : decode cX7_place 47 = .ok (.getfield 163, 3) := by decide +kernel
theorem dX7_place_50 : decode cX7_place 50 = .ok (.lload_n 3, 1) := by decide +kernel
theorem dX7_place_51 : decode cX7_place 51 = .ok (.invokevirtual 184, 3) := by decide +kernel
theorem dX7_place_54 : decode cX7_place 54 = .ok (.invokevirtual 86, 3) := by decide +kernel
theorem dX7_place_57 : decode cX7_place 57 = .ok (.ireturn, 1) := by decide +kernel
theorem dX7_home_0 : decode cX7_home 0 = .ok (.aload_n 0, 1) := by decide +kernel
theorem dX7_home_1 : decode cX7_home 1 = .ok (.getfield 19, 3) := by decide +kernel
theorem dX7_home_4 : decode cX7_home 4 = .ok (.getfield 95, 3) := by decide +kernel
theorem dX7_home_7 : decode cX7_home 7 = .ok (.ifCond .ne 9, 3) := by decide +kernel
theorem dX7_home_10 : decode cX7_home 10 = .ok (.aload_n 0, 1) := by decide +kernel
theorem dX7_home_11 : decode cX7_home 11 = .ok (.iconst 5, 1) := by decide +kernel
theorem dX7_home_12 : decode cX7_home 12 = .ok (.invokevirtual 56, 3) := by decide +kernel
theorem dX7_home_15 : decode cX7_home 15 = .ok (.ireturn, 1) := by decide +kernel
theorem dX7_home_16 : decode cX7_home 16 = .ok (.aload_n 0, 1) := by decide +kernel
theorem dX7_home_17 : decode cX7_home 17 = .ok (.aload_n 0, 1) := by decide +kernel
theorem dX7_home_18 : decode cX7_home 18 = .ok (.getfield 38, 3) := by decide +kernel
theorem dX7_home_21 : decode cX7_home 21 = .ok (.invokevirtual 100, 3) := by decide +kernel
theorem dX7_home_24 : decode cX7_home 24 = .ok (.ifCond .eq 9, 3) := by decide +kernel
theorem dX7_home_27 : decode cX7_home 27 = .ok (.aload_n 0, 1) := by decide +kernel
theorem dX7_home_28 : decode cX7_home 28 = .ok (.iconst 4, 1) := by decide +kernel
theorem dX7_home_29 : decode cX7_home 29 = .ok (.invokevirtual 56, 3) := by decide +kernel
theorem dX7_home_32 : decode cX7_home 32 = .ok (.ireturn, 1) := by decide +kernel
theorem dX7_home_33 : decode cX7_home 33 = .ok (.aload_n 0, 1) := by decide +kernel
theorem dX7_home_34 : decode cX7_home 34 = .ok (.invokevirtual 337, 3) := by decide +kernel
theorem dX7_home_37 : decode cX7_home 37 = .ok (.aload_n 0, 1) := by decide +kernel
theorem dX7_home_38 : decode cX7_home 38 = .ok (.invokevirtual 340, 3) := by decide +kernel
theorem dX7_home_41 : decode cX7_home 41 = .ok (.istore_n 1, 1) := by decide +kernel
theorem dX7_home_42 : decode cX7_home 42 = .ok (.aload_n 0, 1) := by decide +kernel
theorem dX7_home_43 : decode cX7_home 43 = .ok (.aload_n 0, 1) := by decide +kernel
theorem dX7_home_44 : decode cX7_home 44 = .ok (.getfield 19, 3) := by decide +kernel
theorem dX7_home_47 : decode cX7_home 47 = .ok (.getfield 95, 3) := by decide +kernel
theorem dX7_home_50 : decode cX7_home 50 = .ok (.invokestatic 77, 3) := by decide +kernel
theorem dX7_home_53 : decode cX7_home 53 = .ok (.putfield 38, 3) := by decide +kernel
theorem dX7_home_56 : decode cX7_home 56 = .ok (.aload_n 0, 1) := by decide +kernel
theorem dX7_home_57 : decode cX7_home 57 = .ok (.iload_n 1, 1) := by decide +kernel
theorem dX7_home_58 : decode cX7_home 58 = .ok (.invokevirtual 86, 3) := by decide +kernel
theorem dX7_home_61 : decode cX7_home 61 = .ok (.ireturn, 1) := by decide +kernel
theorem dX7_add_0 : decode cX7_add 0 = .ok (.aload_n 0, 1) := by decide +kernel
theorem dX7_add_1 : decode cX7_add 1 = .ok (.lload_n 1, 1) := by decide +kernel
theorem dX7_add_2 : decode cX7_add 2 = .ok (.invokevirtual 114, 3) := by decide +kernel
theorem dX7_add_5 : decode cX7_add 5 = .ok (.lstore_n 3, 1) := by decide +kernel
theorem dX7_add_6 : decode cX7_add 6 = .ok (.lload_n 3, 1) := by decide +kernel
theorem dX7_add_7 : decode cX7_add 7 = .ok (.lconst 0, 1) := by decide +kernel
theorem dX7_add_8 : decode cX7_add 8 = .ok (.lcmp, 1) := by decide +kernel
theorem dX7_add_9 : decode cX7_add 9 = .ok (.ifCond .ge 9, 3) := by decide +kernel
theorem dX7_add_12 : decode cX7_add 12 = .ok (.aload_n 0, 1) := by decide +kernel
theorem dX7_add_13 : decode cX7_add 13 = .ok (.iconst 1, 1) := by decide +kernel
theorem dX7_add_14 : decode cX7_add 14 = .ok (.invokevirtual 56, 3) := by decide +kernel
theorem dX7_add_17 : decode cX7_add 17 = .ok (.ireturn, 1) := by decide +kernel
theorem dX7_add_18 : decode cX7_add 18 = .ok (.aload_n 0, 1) := by decide +kernel
theorem dX7_add_19 : decode cX7_add 19 = .ok (.getfield 19, 3) := by decide +kernel
theorem dX7_add_22 : decode cX7_add 22 = .ok (.getfield 96, 3) := by decide +kernel
theorem dX7_add_25 : decode cX7_add 25 = .ok (.bipush 6, 2) := by decide +kernel
theorem dX7_add_27 : decode cX7_add 27 = .ok (.if_icmp .lt 9, 3) := by decide +kernel
theorem dX7_add_30 : decode cX7_add 30 = .ok (.aload_n 0, 1) := by decide +kernel
theorem dX7_add_31 : decode cX7_add 31 = .ok (.iconst 3, 1) := by decide +kernel
theorem dX7_add_32 : decode cX7_add 32 = .ok (.invokevirtual 56, 3) := by decide +kernel
theorem dX7_add_35 : decode cX7_add 35 = .ok (.ireturn, 1) := by decide +kernel
theorem dX7_add_36 : decode cX7_add 36 = .ok (.aload_n 0, 1) := by decide +kernel
theorem dX7_add_37 : decode cX7_add 37 = .ok (.invokevirtual 337, 3) := by decide +kernel
theorem dX7_add_40 : decode cX7_add 40 = .ok (.aload_n 0, 1) := by decide +kernel
theorem dX7_add_41 : decode cX7_add 41 = .ok (.getfield 19, 3) := by decide +kernel
theorem dX7_add_44 : decode cX7_add 44 = .ok (.lload_n 3, 1) := by decide +kernel
theorem dX7_add_45 : decode cX7_add 45 = .ok (.invokevirtual 343, 3) := by decide +kernel
theorem dX7_add_48 : decode cX7_add 48 = .ok (.aload_n 0, 1) := by decide +kernel
theorem dX7_add_49 : decode cX7_add 49 = .ok (.aload_n 0, 1) := by decide +kernel
theorem dX7_add_50 : decode cX7_add 50 = .ok (.getfield 19, 3) := by decide +kernel
theorem dX7_add_53 : decode cX7_add 53 = .ok (.invokevirtual 178, 3) := by decide +kernel
theorem dX7_add_56 : decode cX7_add 56 = .ok (.invokevirtual 86, 3) := by decide +kernel
theorem dX7_add_59 : decode cX7_add 59 = .ok (.ireturn, 1) := by decide +kernel
theorem dX7_drop_0 : decode cX7_drop 0 = .ok (.iload_n 1, 1) := by decide +kernel
theorem dX7_drop_1 : decode cX7_drop 1 = .ok (.ifCond .lt 14, 3) := by decide +kernel
theorem dX7_drop_4 : decode cX7_drop 4 = .ok (.iload_n 1, 1) := by decide +kernel
theorem dX7_drop_5 : decode cX7_drop 5 = .ok (.aload_n 0, 1) := by decide +kernel
theorem dX7_drop_6 : decode cX7_drop 6 = .ok (.getfield 19, 3) := by decide +kernel
theorem dX7_drop_9 : decode cX7_drop 9 = .ok (.getfield 96, 3) := by decide +kernel
theorem dX7_drop_12 : decode cX7_drop 12 = .ok (.if_icmp .lt 9, 3) := by decide +kernel
theorem dX7_drop_15 : decode cX7_drop 15 = .ok (.aload_n 0, 1) := by decide +kernel
theorem dX7_drop_16 : decode cX7_drop 16 = .ok (.iconst 2, 1) := by decide +kernel
theorem dX7_drop_17 : decode cX7_drop 17 = .ok (.invokevirtual 56, 3) := by decide +kernel
theorem dX7_drop_20 : decode cX7_drop 20 = .ok (.ireturn, 1) := by decide +kernel
theorem dX7_drop_21 : decode cX7_drop 21 = .ok (.aload_n 0, 1) := by decide +kernel
theorem dX7_drop_22 : decode cX7_drop 22 = .ok (.invokevirtual 337, 3) := by decide +kernel
theorem dX7_drop_25 : decode cX7_drop 25 = .ok (.aload_n 0, 1) := by decide +kernel
theorem dX7_drop_26 : decode cX7_drop 26 = .ok (.getfield 19, 3) := by decide +kernel
theorem dX7_drop_29 : decode cX7_drop 29 = .ok (.iload_n 1, 1) := by decide +kernel
theorem dX7_drop_30 : decode cX7_drop 30 = .ok (.invokevirtual 347, 3) := by decide +kernel
theorem dX7_drop_33 : decode cX7_drop 33 = .ok (.aload_n 0, 1) := by decide +kernel
theorem dX7_drop_34 : decode cX7_drop 34 = .ok (.aload_n 0, 1) := by decide +kernel
theorem dX7_drop_35 : decode cX7_drop 35 = .ok (.getfield 19, 3) := by decide +kernel
theorem dX7_drop_38 : decode cX7_drop 38 = .ok (.invokevirtual 178, 3) := by decide +kernel
theorem dX7_drop_41 : decode cX7_drop 41 = .ok (.invokevirtual 86, 3) := by decide +kernel
theorem dX7_drop_44 : decode cX7_drop 44 = .ok (.ireturn, 1) := by decide +kernel
theorem dX7_undo_0 : decode cX7_undo 0 = .ok (.aload_n 0, 1) := by decide +kernel
theorem dX7_undo_1 : decode cX7_undo 1 = .ok (.getfield 26, 3) := by decide +kernel
theorem dX7_undo_4 : decode cX7_undo 4 = .ok (.getfield 97, 3) := by decide +kernel
theorem dX7_undo_7 : decode cX7_undo 7 = .ok (.ifCond .ne 9, 3) := by decide +kernel
theorem dX7_undo_10 : decode cX7_undo 10 = .ok (.aload_n 0, 1) := by decide +kernel
theorem dX7_undo_11 : decode cX7_undo 11 = .ok (.iconst 5, 1) := by decide +kernel
theorem dX7_undo_12 : decode cX7_undo 12 = .ok (.invokevirtual 56, 3) := by decide +kernel
theorem dX7_undo_15 : decode cX7_undo 15 = .ok (.ireturn, 1) := by decide +kernel
theorem dX7_undo_16 : decode cX7_undo 16 = .ok (.aload_n 0, 1) := by decide +kernel
theorem dX7_undo_17 : decode cX7_undo 17 = .ok (.getfield 26, 3) := by decide +kernel
theorem dX7_undo_20 : decode cX7_undo 20 = .ok (.invokevirtual 350, 3) := by decide +kernel
theorem dX7_undo_23 : decode cX7_undo 23 = .ok (.aload_n 0, 1) := by decide +kernel
theorem dX7_undo_24 : decode cX7_undo 24 = .ok (.aload_n 0, 1) := by decide +kernel
theorem dX7_undo_25 : decode cX7_undo 25 = .ok (.getfield 26, 3) := by decide +kernel
theorem dX7_undo_28 : decode cX7_undo 28 = .ok (.getfield 353, 3) := by decide +kernel
theorem dX7_undo_31 : decode cX7_undo 31 = .ok (.putfield 38, 3) := by decide +kernel
theorem dX7_undo_34 : decode cX7_undo 34 = .ok (.aload_n 0, 1) := by decide +kernel
theorem dX7_undo_35 : decode cX7_undo 35 = .ok (.getfield 19, 3) := by decide +kernel
theorem dX7_undo_38 : decode cX7_undo 38 = .ok (.aload_n 0, 1) := by decide +kernel
theorem dX7_undo_39 : decode cX7_undo 39 = .ok (.getfield 26, 3) := by decide +kernel
theorem dX7_undo_42 : decode cX7_undo 42 = .ok (.getfield 354, 3) := by decide +kernel
theorem dX7_undo_45 : decode cX7_undo 45 = .ok (.aload_n 0, 1) := by decide +kernel
theorem dX7_undo_46 : decode cX7_undo 46 = .ok (.getfield 26, 3) := by decide +kernel
theorem dX7_undo_49 : decode cX7_undo 49 = .ok (.getfield 355, 3) := by decide +kernel
theorem dX7_undo_52 : decode cX7_undo 52 = .ok (.invokevirtual 356, 3) := by decide +kernel
theorem dX7_undo_55 : decode cX7_undo 55 = .ok (.ifCond .ne 31, 3) := by decide +kernel
theorem dX7_undo_58 : decode cX7_undo 58 = .ok (.aload_n 0, 1) := by decide +kernel
theorem dX7_undo_59 : decode cX7_undo 59 = .ok (.getfield 19, 3) := by decide +kernel
theorem dX7_undo_62 : decode cX7_undo 62 = .ok (.aload_n 0, 1) := by decide +kernel
theorem dX7_undo_63 : decode cX7_undo 63 = .ok (.getfield 19, 3) := by decide +kernel
theorem dX7_undo_66 : decode cX7_undo 66 = .ok (.getfield 95, 3) := by decide +kernel
theorem dX7_undo_69 : decode cX7_undo 69 = .ok (.aload_n 0, 1) := by decide +kernel
theorem dX7_undo_70 : decode cX7_undo 70 = .ok (.getfield 26, 3) := by decide +kernel
theorem dX7_undo_73 : decode cX7_undo 73 = .ok (.getfield 354, 3) := by decide +kernel
theorem dX7_undo_76 : decode cX7_undo 76 = .ok (.aload_n 0, 1) := by decide +kernel
theorem dX7_undo_77 : decode cX7_undo 77 = .ok (.getfield 26, 3) := by decide +kernel
theorem dX7_undo_80 : decode cX7_undo 80 = .ok (.getfield 355, 3) := by decide +kernel
theorem dX7_undo_83 : decode cX7_undo 83 = .ok (.invokevirtual 73, 3) := by decide +kernel
theorem dX7_undo_86 : decode cX7_undo 86 = .ok (.aload_n 0, 1) := by decide +kernel
theorem dX7_undo_87 : decode cX7_undo 87 = .ok (.aload_n 0, 1) := by decide +kernel
theorem dX7_undo_88 : decode cX7_undo 88 = .ok (.getfield 26, 3) := by decide +kernel
theorem dX7_undo_91 : decode cX7_undo 91 = .ok (.getfield 97, 3) := by decide +kernel
theorem dX7_undo_94 : decode cX7_undo 94 = .ok (.invokevirtual 86, 3) := by decide +kernel
theorem dX7_undo_97 : decode cX7_undo 97 = .ok (.ireturn, 1) := by decide +kernel
theorem dX7_print_0 : decode cX7_print 0 = .ok (.aload_n 0, 1) := by decide +kernel
theorem dX7_print_1 : decode cX7_print 1 = .ok (.lload_n 1, 1) := by decide +kernel
theorem dX7_print_2 : decode cX7_print 2 = .ok (.invokevirtual 114, 3) := by decide +kernel
theorem dX7_print_5 : decode cX7_print 5 = .ok (.lstore_n 3, 1) := by decide +kernel
theorem dX7_print_6 : decode cX7_print 6 = .ok (.lload_n 3, 1) := by decide +kernel
theorem dX7_print_7 : decode cX7_print 7 = .ok (.lconst 0, 1) := by decide +kernel
theorem dX7_print_8 : decode cX7_print 8 = .ok (.lcmp, 1) := by decide +kernel
theorem dX7_print_9 : decode cX7_print 9 = .ok (.ifCond .ge 9, 3) := by decide +kernel
theorem dX7_print_12 : decode cX7_print 12 = .ok (.aload_n 0, 1) := by decide +kernel
theorem dX7_print_13 : decode cX7_print 13 = .ok (.iconst 1, 1) := by decide +kernel
theorem dX7_print_14 : decode cX7_print 14 = .ok (.invokevirtual 56, 3) := by decide +kernel
theorem dX7_print_17 : decode cX7_print 17 = .ok (.ireturn, 1) := by decide +kernel
theorem dX7_print_18 : decode cX7_print 18 = .ok (.aload_n 0, 1) := by decide +kernel
theorem dX7_print_19 : decode cX7_print 19 = .ok (.lload_n 3, 1) := by decide +kernel
theorem dX7_print_20 : decode cX7_print 20 = .ok (.invokevirtual 360, 3) := by decide +kernel
theorem dX7_print_23 : decode cX7_print 23 = .ok (.aload_n 0, 1) := by decide +kernel
theorem dX7_print_24 : decode cX7_print 24 = .ok (.aload_n 0, 1) := by decide +kernel
theorem dX7_print_25 : decode cX7_print 25 = .ok (.getfield 34, 3) := by decide +kernel
theorem dX7_print_28 : decode cX7_print 28 = .ok (.invokevirtual 86, 3) := by decide +kernel
theorem dX7_print_31 : decode cX7_print 31 = .ok (.ireturn, 1) := by decide +kernel
theorem dX7_out_0 : decode cX7_out 0 = .ok (.iload_n 1, 1) := by decide +kernel
theorem dX7_out_1 : decode cX7_out 1 = .ok (.ifCond .ge 9, 3) := by decide +kernel
theorem dX7_out_4 : decode cX7_out 4 = .ok (.aload_n 0, 1) := by decide +kernel
theorem dX7_out_5 : decode cX7_out 5 = .ok (.iconst 1, 1) := by decide +kernel
theorem dX7_out_6 : decode cX7_out 6 = .ok (.invokevirtual 56, 3) := by decide +kernel
theorem dX7_out_9 : decode cX7_out 9 = .ok (.ireturn, 1) := by decide +kernel
theorem dX7_out_10 : decode cX7_out 10 = .ok (.iload_n 1, 1) := by decide +kernel
theorem dX7_out_11 : decode cX7_out 11 = .ok (.aload_n 0, 1) := by decide +kernel
theorem dX7_out_12 : decode cX7_out 12 = .ok (.getfield 34, 3) := by decide +kernel
theorem dX7_out_15 : decode cX7_out 15 = .ok (.if_icmp .ge 12, 3) := by decide +kernel
theorem dX7_out_18 : decode cX7_out 18 = .ok (.iload_n 1, 1) := by decide +kernel
theorem dX7_out_19 : decode cX7_out 19 = .ok (.aload_n 0, 1) := by decide +kernel
theorem dX7_out_20 : decode cX7_out 20 = .ok (.getfield 30, 3) := by decide +kernel
theorem dX7_out_23 : decode cX7_out 23 = .ok (.arraylength, 1) := by decide +kernel
theorem dX7_out_24 : decode cX7_out 24 = .ok (.if_icmp .lt 9, 3) := by decide +kernel
theorem dX7_out_27 : decode cX7_out 27 = .ok (.aload_n 0, 1) := by decide +kernel
theorem dX7_out_28 : decode cX7_out 28 = .ok (.iconst 5, 1) := by decide +kernel
theorem dX7_out_29 : decode cX7_out 29 = .ok (.invokevirtual 56, 3) := by decide +kernel
theorem dX7_out_32 : decode cX7_out 32 = .ok (.ireturn, 1) := by decide +kernel
theorem dX7_out_33 : decode cX7_out 33 = .ok (.aload_n 0, 1) := by decide +kernel
theorem dX7_out_34 : decode cX7_out 34 = .ok (.aload_n 0, 1) := by decide +kernel
theorem dX7_out_35 : decode cX7_out 35 = .ok (.getfield 30, 3) := by decide +kernel
theorem dX7_out_38 : decode cX7_out 38 = .ok (.iload_n 1, 1) := by decide +kernel
theorem dX7_out_39 : decode cX7_out 39 = .ok (.baload, 1) := by decide +kernel
theorem dX7_out_40 : decode cX7_out 40 = .ok (.invokevirtual 86, 3) := by decide +kernel
theorem dX7_out_43 : decode cX7_out 43 = .ok (.ireturn, 1) := by decide +kernel
theorem dX7_refuse_0 : decode cX7_refuse 0 = .ok (.aload_n 0, 1) := by decide +kernel
theorem dX7_refuse_1 : decode cX7_refuse 1 = .ok (.iload_n 1, 1) := by decide +kernel
theorem dX7_refuse_2 : decode cX7_refuse 2 = .ok (.putfield 42, 3) := by decide +kernel
theorem dX7_refuse_5 : decode cX7_refuse 5 = .ok (.iconst (-1), 1) := by decide +kernel
theorem dX7_refuse_6 : decode cX7_refuse 6 = .ok (.ireturn, 1) := by decide +kernel
theorem dX7_tell_0 : decode cX7_tell 0 = .ok (.aload_n 0, 1) := by decide +kernel
theorem dX7_tell_1 : decode cX7_tell 1 = .ok (.iconst 0, 1) := by decide +kernel
theorem dX7_tell_2 : decode cX7_tell 2 = .ok (.putfield 42, 3) := by decide +kernel
theorem dX7_tell_5 : decode cX7_tell 5 = .ok (.iload_n 1, 1) := by decide +kernel
theorem dX7_tell_6 : decode cX7_tell 6 = .ok (.ireturn, 1) := by decide +kernel
theorem dX7_tellTurn_0 : decode cX7_tellTurn 0 = .ok (.aload_n 0, 1) := by decide +kernel
theorem dX7_tellTurn_1 : decode cX7_tellTurn 1 = .ok (.iconst 0, 1) := by decide +kernel
theorem dX7_tellTurn_2 : decode cX7_tellTurn 2 = .ok (.putfield 42, 3) := by decide +kernel
theorem dX7_tellTurn_5 : decode cX7_tellTurn 5 = .ok (.lload_n 1, 1) := by decide +kernel
theorem dX7_tellTurn_6 : decode cX7_tellTurn 6 = .ok (.aload_n 0, 1) := by decide +kernel
theorem dX7_tellTurn_7 : decode cX7_tellTurn 7 = .ok (.getfield 19, 3) := by decide +kernel
theorem dX7_tellTurn_10 : decode cX7_tellTurn 10 = .ok (.getfield 95, 3) := by decide +kernel
theorem dX7_tellTurn_13 : decode cX7_tellTurn 13 = .ok (.invokestatic 363, 3) := by decide +kernel
theorem dX7_tellTurn_16 : decode cX7_tellTurn 16 = .ok (.lreturn, 1) := by decide +kernel
theorem dX7_read_0 : decode cX7_read 0 = .ok (.lload_n 1, 1) := by decide +kernel
theorem dX7_read_1 : decode cX7_read 1 = .ok (.aload_n 0, 1) := by decide +kernel
theorem dX7_read_2 : decode cX7_read 2 = .ok (.getfield 19, 3) := by decide +kernel
theorem dX7_read_5 : decode cX7_read 5 = .ok (.getfield 95, 3) := by decide +kernel
theorem dX7_read_8 : decode cX7_read 8 = .ok (.invokestatic 366, 3) := by decide +kernel
theorem dX7_read_11 : decode cX7_read 11 = .ok (.lreturn, 1) := by decide +kernel
theorem dX7_hurdle_0 : decode cX7_hurdle 0 = .ok (.aload_n 0, 1) := by decide +kernel
theorem dX7_hurdle_1 : decode cX7_hurdle 1 = .ok (.getfield 19, 3) := by decide +kernel
theorem dX7_hurdle_4 : decode cX7_hurdle 4 = .ok (.getfield 95, 3) := by decide +kernel
theorem dX7_hurdle_7 : decode cX7_hurdle 7 = .ok (.ifCond .ne 5, 3) := by decide +kernel
theorem dX7_hurdle_10 : decode cX7_hurdle 10 = .ok (.iconst 5, 1) := by decide +kernel
theorem dX7_hurdle_11 : decode cX7_hurdle 11 = .ok (.ireturn, 1) := by decide +kernel
theorem dX7_hurdle_12 : decode cX7_hurdle 12 = .ok (.aload_n 0, 1) := by decide +kernel
theorem dX7_hurdle_13 : decode cX7_hurdle 13 = .ok (.getfield 19, 3) := by decide +kernel
theorem dX7_hurdle_16 : decode cX7_hurdle 16 = .ok (.invokevirtual 178, 3) := by decide +kernel
theorem dX7_hurdle_19 : decode cX7_hurdle 19 = .ok (.sipush 5040, 3) := by decide +kernel
theorem dX7_hurdle_22 : decode cX7_hurdle 22 = .ok (.if_icmp .le 7, 3) := by decide +kernel
theorem dX7_hurdle_25 : decode cX7_hurdle 25 = .ok (.iconst 3, 1) := by decide +kernel
theorem dX7_hurdle_26 : decode cX7_hurdle 26 = .ok (.goto 4, 3) := by decide +kernel
theorem dX7_hurdle_29 : decode cX7_hurdle 29 = .ok (.iconst 0, 1) := by decide +kernel
theorem dX7_hurdle_30 : decode cX7_hurdle 30 = .ok (.ireturn, 1) := by decide +kernel
theorem dX7_tellWay_0 : decode cX7_tellWay 0 = .ok (.aload_n 0, 1) := by decide +kernel
theorem dX7_tellWay_1 : decode cX7_tellWay 1 = .ok (.invokevirtual 196, 3) := by decide +kernel
theorem dX7_tellWay_4 : decode cX7_tellWay 4 = .ok (.istore 4, 2) := by decide +kernel
theorem dX7_tellWay_6 : decode cX7_tellWay 6 = .ok (.iload 4, 2) := by decide +kernel
theorem dX7_tellWay_8 : decode cX7_tellWay 8 = .ok (.ifCond .eq 10, 3) := by decide +kernel
theorem dX7_tellWay_11 : decode cX7_tellWay 11 = .ok (.aload_n 0, 1) := by decide +kernel
theorem dX7_tellWay_12 : decode cX7_tellWay 12 = .ok (.iload 4, 2) := by decide +kernel
theorem dX7_tellWay_14 : decode cX7_tellWay 14 = .ok (.invokevirtual 56, 3) := by decide +kernel
theorem dX7_tellWay_17 : decode cX7_tellWay 17 = .ok (.ireturn, 1) := by decide +kernel
theorem dX7_tellWay_18 : decode cX7_tellWay 18 = .ok (.aload_n 0, 1) := by decide +kernel
theorem dX7_tellWay_19 : decode cX7_tellWay 19 = .ok (.getfield 19, 3) := by decide +kernel
theorem dX7_tellWay_22 : decode cX7_tellWay 22 = .ok (.invokevirtual 199, 3) := by decide +kernel
theorem dX7_tellWay_25 : decode cX7_tellWay 25 = .ok (.astore 5, 2) := by decide +kernel
theorem dX7_tellWay_27 : decode cX7_tellWay 27 = .ok (.aload 5, 2) := by decide +kernel
theorem dX7_tellWay_29 : decode cX7_tellWay 29 = .ok (.lload_n 1, 1) := by decide +kernel
theorem dX7_tellWay_30 : decode cX7_tellWay 30 = .ok (.invokevirtual 224, 3) := by decide +kernel
theorem dX7_tellWay_33 : decode cX7_tellWay 33 = .ok (.istore 6, 2) := by decide +kernel
theorem dX7_tellWay_35 : decode cX7_tellWay 35 = .ok (.iload 6, 2) := by decide +kernel
theorem dX7_tellWay_37 : decode cX7_tellWay 37 = .ok (.ifCond .ge 10, 3) := by decide +kernel
theorem dX7_tellWay_40 : decode cX7_tellWay 40 = .ok (.aload_n 0, 1) := by decide +kernel
theorem dX7_tellWay_41 : decode cX7_tellWay 41 = .ok (.bipush 6, 2) := by decide +kernel
theorem dX7_tellWay_43 : decode cX7_tellWay 43 = .ok (.invokevirtual 56, 3) := by decide +kernel
theorem dX7_tellWay_46 : decode cX7_tellWay 46 = .ok (.ireturn, 1) := by decide +kernel
theorem dX7_tellWay_47 : decode cX7_tellWay 47 = .ok (.iload_n 3, 1) := by decide +kernel
theorem dX7_tellWay_48 : decode cX7_tellWay 48 = .ok (.iconst (-1), 1) := by decide +kernel
theorem dX7_tellWay_49 : decode cX7_tellWay 49 = .ok (.if_icmp .ne 16, 3) := by decide +kernel
theorem dX7_tellWay_52 : decode cX7_tellWay 52 = .ok (.aload_n 0, 1) := by decide +kernel
theorem dX7_tellWay_53 : decode cX7_tellWay 53 = .ok (.aload 5, 2) := by decide +kernel
theorem dX7_tellWay_55 : decode cX7_tellWay 55 = .ok (.getfield 369, 3) := by decide +kernel
theorem dX7_tellWay_58 : decode cX7_tellWay 58 = .ok (.iload 6, 2) := by decide +kernel
theorem dX7_tellWay_60 : decode cX7_tellWay 60 = .ok (.iaload, 1) := by decide +kernel
theorem dX7_tellWay_61 : decode cX7_tellWay 61 = .ok (.invokevirtual 86, 3) := by decide +kernel
theorem dX7_tellWay_64 : decode cX7_tellWay 64 = .ok (.ireturn, 1) := by decide +kernel
theorem dX7_tellWay_65 : decode cX7_tellWay 65 = .ok (.iload_n 3, 1) := by decide +kernel
theorem dX7_tellWay_66 : decode cX7_tellWay 66 = .ok (.aload 5, 2) := by decide +kernel
theorem dX7_tellWay_68 : decode cX7_tellWay 68 = .ok (.getfield 369, 3) := by decide +kernel
theorem dX7_tellWay_71 : decode cX7_tellWay 71 = .ok (.iload 6, 2) := by decide +kernel
theorem dX7_tellWay_73 : decode cX7_tellWay 73 = .ok (.iaload, 1) := by decide +kernel
theorem dX7_tellWay_74 : decode cX7_tellWay 74 = .ok (.if_icmp .lt 11, 3) := by decide +kernel
theorem dX7_tellWay_77 : decode cX7_tellWay 77 = .ok (.aload_n 0, 1) := by decide +kernel
theorem dX7_tellWay_78 : decode cX7_tellWay 78 = .ok (.iconst 5, 1) := by decide +kernel
theorem dX7_tellWay_79 : decode cX7_tellWay 79 = .ok (.invokevirtual 56, 3) := by decide +kernel
theorem dX7_tellWay_82 : decode cX7_tellWay 82 = .ok (.goto 15, 3) := by decide +kernel
theorem dX7_tellWay_85 : decode cX7_tellWay 85 = .ok (.aload_n 0, 1) := by decide +kernel
theorem dX7_tellWay_86 : decode cX7_tellWay 86 = .ok (.aload 5, 2) := by decide +kernel
theorem dX7_tellWay_88 : decode cX7_tellWay 88 = .ok (.iload 6, 2) := by decide +kernel
theorem dX7_tellWay_90 : decode cX7_tellWay 90 = .ok (.iload_n 3, 1) := by decide +kernel
theorem dX7_tellWay_91 : decode cX7_tellWay 91 = .ok (.invokevirtual 372, 3) := by decide +kernel
theorem dX7_tellWay_94 : decode cX7_tellWay 94 = .ok (.invokevirtual 86, 3) := by decide +kernel
theorem dX7_tellWay_97 : decode cX7_tellWay 97 = .ok (.ireturn, 1) := by decide +kernel
theorem dX7_isHome_0 : decode cX7_isHome 0 = .ok (.lload_n 1, 1) := by decide +kernel
theorem dX7_isHome_1 : decode cX7_isHome 1 = .ok (.aload_n 0, 1) := by decide +kernel
theorem dX7_isHome_2 : decode cX7_isHome 2 = .ok (.getfield 19, 3) := by decide +kernel
theorem dX7_isHome_5 : decode cX7_isHome 5 = .ok (.getfield 95, 3) := by decide +kernel
theorem dX7_isHome_8 : decode cX7_isHome 8 = .ok (.invokestatic 77, 3) := by decide +kernel
theorem dX7_isHome_11 : decode cX7_isHome 11 = .ok (.lcmp, 1) := by decide +kernel
theorem dX7_isHome_12 : decode cX7_isHome 12 = .ok (.ifCond .ne 7, 3) := by decide +kernel
theorem dX7_isHome_15 : decode cX7_isHome 15 = .ok (.iconst 1, 1) := by decide +kernel
theorem dX7_isHome_16 : decode cX7_isHome 16 = .ok (.goto 4, 3) := by decide +kernel
theorem dX7_isHome_19 : decode cX7_isHome 19 = .ok (.iconst 0, 1) := by decide +kernel
theorem dX7_isHome_20 : decode cX7_isHome 20 = .ok (.ireturn, 1) := by decide +kernel
theorem dX7_countAway_0 : decode cX7_countAway 0 = .ok (.aload_n 0, 1) := by decide +kernel
theorem dX7_countAway_1 : decode cX7_countAway 1 = .ok (.getfield 38, 3) := by decide +kernel
theorem dX7_countAway_4 : decode cX7_countAway 4 = .ok (.aload_n 0, 1) := by decide +kernel
theorem dX7_countAway_5 : decode cX7_countAway 5 = .ok (.getfield 19, 3) := by decide +kernel
theorem dX7_countAway_8 : decode cX7_countAway 8 = .ok (.getfield 95, 3) := by decide +kernel
theorem dX7_countAway_11 : decode cX7_countAway 11 = .ok (.invokestatic 153, 3) := by decide +kernel
theorem dX7_countAway_14 : decode cX7_countAway 14 = .ok (.invokestatic 375, 3) := by decide +kernel
theorem dX7_countAway_17 : decode cX7_countAway 17 = .ok (.ireturn, 1) := by decide +kernel
theorem dX7_keepPast_0 : decode cX7_keepPast 0 = .ok (.aload_n 0, 1) := by decide +kernel
theorem dX7_keepPast_1 : decode cX7_keepPast 1 = .ok (.getfield 26, 3) := by decide +kernel
theorem dX7_keepPast_4 : decode cX7_keepPast 4 = .ok (.aload_n 0, 1) := by decide +kernel
theorem dX7_keepPast_5 : decode cX7_keepPast 5 = .ok (.getfield 38, 3) := by decide +kernel
theorem dX7_keepPast_8 : decode cX7_keepPast 8 = .ok (.aload_n 0, 1) := by decide +kernel
theorem dX7_keepPast_9 : decode cX7_keepPast 9 = .ok (.getfield 19, 3) := by decide +kernel
theorem dX7_keepPast_12 : decode cX7_keepPast 12 = .ok (.getfield 380, 3) := by decide +kernel
theorem dX7_keepPast_15 : decode cX7_keepPast 15 = .ok (.aload_n 0, 1) := by decide +kernel
theorem dX7_keepPast_16 : decode cX7_keepPast 16 = .ok (.getfield 19, 3) := by decide +kernel
theorem dX7_keepPast_19 : decode cX7_keepPast 19 = .ok (.getfield 96, 3) := by decide +kernel
theorem dX7_keepPast_22 : decode cX7_keepPast 22 = .ok (.invokevirtual 381, 3) := by decide +kernel
theorem dX7_keepPast_25 : decode cX7_keepPast 25 = .ok (.return_, 1) := by decide +kernel
theorem dX7_printCycles_0 : decode cX7_printCycles 0 = .ok (.aload_n 0, 1) := by decide +kernel
theorem dX7_printCycles_1 : decode cX7_printCycles 1 = .ok (.iconst 0, 1) := by decide +kernel
theorem dX7_printCycles_2 : decode cX7_printCycles 2 = .ok (.putfield 34, 3) := by decide +kernel
theorem dX7_printCycles_5 : decode cX7_printCycles 5 = .ok (.iconst 0, 1) := by decide +kernel
theorem dX7_printCycles_6 : decode cX7_printCycles 6 = .ok (.istore_n 3, 1) := by decide +kernel
theorem dX7_printCycles_7 : decode cX7_printCycles 7 = .ok (.iconst 0, 1) := by decide +kernel
theorem dX7_printCycles_8 : decode cX7_printCycles 8 = .ok (.istore 4, 2) := by decide +kernel
theorem dX7_printCycles_10 : decode cX7_printCycles 10 = .ok (.iload 4, 2) := by decide +kernel
theorem dX7_printCycles_12 : decode cX7_printCycles 12 = .ok (.aload_n 0, 1) := by decide +kernel
theorem dX7_printCycles_13 : decode cX7_printCycles 13 = .ok (.getfield 19, 3) := by decide +kernel
theorem dX7_printCycles_16 : decode cX7_printCycles 16 = .ok (.getfield 95, 3) := by decide +kernel
theorem dX7_printCycles_19 : decode cX7_printCycles 19 = .ok (.if_icmp .ge 58, 3) := by decide +kernel
theorem dX7_printCycles_22 : decode cX7_printCycles 22 = .ok (.iload_n 3, 1) := by decide +kernel
theorem dX7_printCycles_23 : decode cX7_printCycles 23 = .ok (.iload 4, 2) := by decide +kernel
theorem dX7_printCycles_25 : decode cX7_printCycles 25 = .ok (.ishr, 1) := by decide +kernel
theorem dX7_printCycles_26 : decode cX7_printCycles 26 = .ok (.iconst 1, 1) := by decide +kernel
theorem dX7_printCycles_27 : decode cX7_printCycles 27 = .ok (.iand, 1) := by decide +kernel
theorem dX7_printCycles_28 : decode cX7_printCycles 28 = .ok (.ifCond .ne 7, 3) := by decide +kernel
theorem dX7_printCycles_31 : decode cX7_printCycles 31 = .ok (.iconst 1, 1) := by decide +kernel
theorem dX7_printCycles_32 : decode cX7_printCycles 32 = .ok (.goto 4, 3) := by decide +kernel
theorem dX7_printCycles_35 : decode cX7_printCycles 35 = .ok (.iconst 0, 1) := by decide +kernel
theorem dX7_printCycles_36 : decode cX7_printCycles 36 = .ok (.istore 5, 2) := by decide +kernel
theorem dX7_printCycles_38 : decode cX7_printCycles 38 = .ok (.iload_n 3, 1) := by decide +kernel
theorem dX7_printCycles_39 : decode cX7_printCycles 39 = .ok (.iconst 1, 1) := by decide +kernel
theorem dX7_printCycles_40 : decode cX7_printCycles 40 = .ok (.iload 4, 2) := by decide +kernel
theorem dX7_printCycles_42 : decode cX7_printCycles 42 = .ok (.ishl, 1) := by decide +kernel
theorem dX7_printCycles_43 : decode cX7_printCycles 43 = .ok (.ior, 1) := by decide +kernel
theorem dX7_printCycles_44 : decode cX7_printCycles 44 = .ok (.istore_n 3, 1) := by decide +kernel
theorem dX7_printCycles_45 : decode cX7_printCycles 45 = .ok (.iload 5, 2) := by decide +kernel
theorem dX7_printCycles_47 : decode cX7_printCycles 47 = .ok (.ifCond .eq 24, 3) := by decide +kernel
theorem dX7_printCycles_50 : decode cX7_printCycles 50 = .ok (.lload_n 1, 1) := by decide +kernel
theorem dX7_printCycles_51 : decode cX7_printCycles 51 = .ok (.iload 4, 2) := by decide +kernel
theorem dX7_printCycles_53 : decode cX7_printCycles 53 = .ok (.invokestatic 120, 3) := by decide +kernel
theorem dX7_printCycles_56 : decode cX7_printCycles 56 = .ok (.iload 4, 2) := by decide +kernel
theorem dX7_printCycles_58 : decode cX7_printCycles 58 = .ok (.if_icmp .eq 13, 3) := by decide +kernel
theorem dX7_printCycles_61 : decode cX7_printCycles 61 = .ok (.iload_n 3, 1) := by decide +kernel
theorem dX7_printCycles_62 : decode cX7_printCycles 62 = .ok (.aload_n 0, 1) := by decide +kernel
theorem dX7_printCycles_63 : decode cX7_printCycles 63 = .ok (.lload_n 1, 1) := by decide +kernel
theorem dX7_printCycles_64 : decode cX7_printCycles 64 = .ok (.iload 4, 2) := by decide +kernel
theorem dX7_printCycles_66 : decode cX7_printCycles 66 = .ok (.invokevirtual 385, 3) := by decide +kernel
theorem dX7_printCycles_69 : decode cX7_printCycles 69 = .ok (.ior, 1) := by decide +kernel
theorem dX7_printCycles_70 : decode cX7_printCycles 70 = .ok (.istore_n 3, 1) := by decide +kernel
theorem dX7_printCycles_71 : decode cX7_printCycles 71 = .ok (.iinc 4 1, 3) := by decide +kernel
theorem dX7_printCycles_74 : decode cX7_printCycles 74 = .ok (.goto (-64), 3) := by decide +kernel
theorem dX7_printCycles_77 : decode cX7_printCycles 77 = .ok (.aload_n 0, 1) := by decide +kernel
theorem dX7_printCycles_78 : decode cX7_printCycles 78 = .ok (.getfield 34, 3) := by decide +kernel
theorem dX7_printCycles_81 : decode cX7_printCycles 81 = .ok (.ifCond .ne 15, 3) := by decide +kernel
theorem dX7_printCycles_84 : decode cX7_printCycles 84 = .ok (.aload_n 0, 1) := by decide +kernel
theorem dX7_printCycles_85 : decode cX7_printCycles 85 = .ok (.bipush 40, 2) := by decide +kernel
theorem dX7_printCycles_87 : decode cX7_printCycles 87 = .ok (.invokevirtual 388, 3) := by decide +kernel
theorem dX7_printCycles_90 : decode cX7_printCycles 90 = .ok (.aload_n 0, 1) := by decide +kernel
theorem dX7_printCycles_91 : decode cX7_printCycles 91 = .ok (.bipush 41, 2) := by decide +kernel
theorem dX7_printCycles_93 : decode cX7_printCycles 93 = .ok (.invokevirtual 388, 3) := by decide +kernel
theorem dX7_printCycles_96 : decode cX7_printCycles 96 = .ok (.return_, 1) := by decide +kernel
theorem dX7_printCycle_0 : decode cX7_printCycle 0 = .ok (.aload_n 0, 1) := by decide +kernel
theorem dX7_printCycle_1 : decode cX7_printCycle 1 = .ok (.bipush 40, 2) := by decide +kernel
theorem dX7_printCycle_3 : decode cX7_printCycle 3 = .ok (.invokevirtual 388, 3) := by decide +kernel
theorem dX7_printCycle_6 : decode cX7_printCycle 6 = .ok (.aload_n 0, 1) := by decide +kernel
theorem dX7_printCycle_7 : decode cX7_printCycle 7 = .ok (.bipush 48, 2) := by decide +kernel
theorem dX7_printCycle_9 : decode cX7_printCycle 9 = .ok (.iload_n 3, 1) := by decide +kernel
theorem dX7_printCycle_10 : decode cX7_printCycle 10 = .ok (.iadd, 1) := by decide +kernel
theorem dX7_printCycle_11 : decode cX7_printCycle 11 = .ok (.invokevirtual 388, 3) := by decide +kernel
theorem dX7_printCycle_14 : decode cX7_printCycle 14 = .ok (.iconst 1, 1) := by decide +kernel
theorem dX7_printCycle_15 : decode cX7_printCycle 15 = .ok (.iload_n 3, 1) := by decide +kernel
theorem dX7_printCycle_16 : decode cX7_printCycle 16 = .ok (.ishl, 1) := by decide +kernel
theorem dX7_printCycle_17 : decode cX7_printCycle 17 = .ok (.istore 4, 2) := by decide +kernel
theorem dX7_printCycle_19 : decode cX7_printCycle 19 = .ok (.lload_n 1, 1) := by decide +kernel
theorem dX7_printCycle_20 : decode cX7_printCycle 20 = .ok (.iload_n 3, 1) := by decide +kernel
theorem dX7_printCycle_21 : decode cX7_printCycle 21 = .ok (.invokestatic 120, 3) := by decide +kernel
theorem dX7_printCycle_24 : decode cX7_printCycle 24 = .ok (.istore 5, 2) := by decide +kernel
theorem dX7_printCycle_26 : decode cX7_printCycle 26 = .ok (.iconst 0, 1) := by decide +kernel
theorem dX7_printCycle_27 : decode cX7_printCycle 27 = .ok (.istore 6, 2) := by decide +kernel
theorem dX7_printCycle_29 : decode cX7_printCycle 29 = .ok (.iload 6, 2) := by decide +kernel
theorem dX7_printCycle_31 : decode cX7_printCycle 31 = .ok (.bipush 10, 2) := by decide +kernel
theorem dX7_printCycle_33 : decode cX7_printCycle 33 = .ok (.if_icmp .ge 47, 3) := by decide +kernel
theorem dX7_printCycle_36 : decode cX7_printCycle 36 = .ok (.iload 5, 2) := by decide +kernel
theorem dX7_printCycle_38 : decode cX7_printCycle 38 = .ok (.iload_n 3, 1) := by decide +kernel
theorem dX7_printCycle_39 : decode cX7_printCycle 39 = .ok (.if_icmp .eq 41, 3) := by decide +kernel
theorem dX7_printCycle_42 : decode cX7_printCycle 42 = .ok (.aload_n 0, 1) := by decide +kernel
theorem dX7_printCycle_43 : decode cX7_printCycle 43 = .ok (.bipush 32, 2) := by decide +kernel
theorem dX7_printCycle_45 : decode cX7_printCycle 45 = .ok (.invokevirtual 388, 3) := by decide +kernel
theorem dX7_printCycle_48 : decode cX7_printCycle 48 = .ok (.aload_n 0, 1) := by decide +kernel
theorem dX7_printCycle_49 : decode cX7_printCycle 49 = .ok (.bipush 48, 2) := by decide +kernel
theorem dX7_printCycle_51 : decode cX7_printCycle 51 = .ok (.iload 5, 2) := by decide +kernel
theorem dX7_printCycle_53 : decode cX7_printCycle 53 = .ok (.iadd, 1) := by decide +kernel
theorem dX7_printCycle_54 : decode cX7_printCycle 54 = .ok (.invokevirtual 388, 3) := by decide +kernel
theorem dX7_printCycle_57 : decode cX7_printCycle 57 = .ok (.iload 4, 2) := by decide +kernel
theorem dX7_printCycle_59 : decode cX7_printCycle 59 = .ok (.iconst 1, 1) := by decide +kernel
theorem dX7_printCycle_60 : decode cX7_printCycle 60 = .ok (.iload 5, 2) := by decide +kernel
theorem dX7_printCycle_62 : decode cX7_printCycle 62 = .ok (.ishl, 1) := by decide +kernel
theorem dX7_printCycle_63 : decode cX7_printCycle 63 = .ok (.ior, 1) := by decide +kernel
theorem dX7_printCycle_64 : decode cX7_printCycle 64 = .ok (.istore 4, 2) := by decide +kernel
theorem dX7_printCycle_66 : decode cX7_printCycle 66 = .ok (.lload_n 1, 1) := by decide +kernel
theorem dX7_printCycle_67 : decode cX7_printCycle 67 = .ok (.iload 5, 2) := by decide +kernel
theorem dX7_printCycle_69 : decode cX7_printCycle 69 = .ok (.invokestatic 120, 3) := by decide +kernel
theorem dX7_printCycle_72 : decode cX7_printCycle 72 = .ok (.istore 5, 2) := by decide +kernel
theorem dX7_printCycle_74 : decode cX7_printCycle 74 = .ok (.iinc 6 1, 3) := by decide +kernel
theorem dX7_printCycle_77 : decode cX7_printCycle 77 = .ok (.goto (-48), 3) := by decide +kernel
theorem dX7_printCycle_80 : decode cX7_printCycle 80 = .ok (.aload_n 0, 1) := by decide +kernel
theorem dX7_printCycle_81 : decode cX7_printCycle 81 = .ok (.bipush 41, 2) := by decide +kernel
theorem dX7_printCycle_83 : decode cX7_printCycle 83 = .ok (.invokevirtual 388, 3) := by decide +kernel
theorem dX7_printCycle_86 : decode cX7_printCycle 86 = .ok (.iload 4, 2) := by decide +kernel
theorem dX7_printCycle_88 : decode cX7_printCycle 88 = .ok (.ireturn, 1) := by decide +kernel
theorem dX7_printByte_0 : decode cX7_printByte 0 = .ok (.aload_n 0, 1) := by decide +kernel
theorem dX7_printByte_1 : decode cX7_printByte 1 = .ok (.getfield 34, 3) := by decide +kernel
theorem dX7_printByte_4 : decode cX7_printByte 4 = .ok (.aload_n 0, 1) := by decide +kernel
theorem dX7_printByte_5 : decode cX7_printByte 5 = .ok (.getfield 30, 3) := by decide +kernel
theorem dX7_printByte_8 : decode cX7_printByte 8 = .ok (.arraylength, 1) := by decide +kernel
theorem dX7_printByte_9 : decode cX7_printByte 9 = .ok (.if_icmp .ge 24, 3) := by decide +kernel
theorem dX7_printByte_12 : decode cX7_printByte 12 = .ok (.aload_n 0, 1) := by decide +kernel
theorem dX7_printByte_13 : decode cX7_printByte 13 = .ok (.getfield 30, 3) := by decide +kernel
theorem dX7_printByte_16 : decode cX7_printByte 16 = .ok (.aload_n 0, 1) := by decide +kernel
theorem dX7_printByte_17 : decode cX7_printByte 17 = .ok (.getfield 34, 3) := by decide +kernel
theorem dX7_printByte_20 : decode cX7_printByte 20 = .ok (.iload_n 1, 1) := by decide +kernel
theorem dX7_printByte_21 : decode cX7_printByte 21 = .ok (.i2b, 1) := by decide +kernel
theorem dX7_printByte_22 : decode cX7_printByte 22 = .ok (.bastore, 1) := by decide +kernel
theorem dX7_printByte_23 : decode cX7_printByte 23 = .ok (.aload_n 0, 1) := by decide +kernel
theorem dX7_printByte_24 : decode cX7_printByte 24 = .ok (.dup, 1) := by decide +kernel
theorem dX7_printByte_25 : decode cX7_printByte 25 = .ok (.getfield 34, 3) := by decide +kernel
theorem dX7_printByte_28 : decode cX7_printByte 28 = .ok (.iconst 1, 1) := by decide +kernel
theorem dX7_printByte_29 : decode cX7_printByte 29 = .ok (.iadd, 1) := by decide +kernel
theorem dX7_printByte_30 : decode cX7_printByte 30 = .ok (.putfield 34, 3) := by decide +kernel
theorem dX7_printByte_33 : decode cX7_printByte 33 = .ok (.return_, 1) := by decide +kernel
theorem dX8_init_0 : decode cX8_init 0 = .ok (.aload_n 0, 1) := by decide +kernel
theorem dX8_init_1 : decode cX8_init 1 = .ok (.invokespecial 1, 3) := by decide +kernel
theorem dX8_init_4 : decode cX8_init 4 = .ok (.aload_n 0, 1) := by decide +kernel
theorem dX8_init_5 : decode cX8_init 5 = .ok (.bipush 71, 2) := by decide +kernel
theorem dX8_init_7 : decode cX8_init 7 = .ok (.newarray .int, 2) := by decide +kernel
theorem dX8_init_9 : decode cX8_init 9 = .ok (.putfield 7, 3) := by decide +kernel
theorem dX8_init_12 : decode cX8_init 12 = .ok (.aload_n 0, 1) := by decide +kernel
theorem dX8_init_13 : decode cX8_init 13 = .ok (.sipush 852, 3) := by decide +kernel
theorem dX8_init_16 : decode cX8_init 16 = .ok (.newarray .int, 2) := by decide +kernel
theorem dX8_init_18 : decode cX8_init 18 = .ok (.putfield 13, 3) := by decide +kernel
theorem dX8_init_21 : decode cX8_init 21 = .ok (.aload_n 0, 1) := by decide +kernel
theorem dX8_init_22 : decode cX8_init 22 = .ok (.bipush 10, 2) := by decide +kernel
theorem dX8_init_24 : decode cX8_init 24 = .ok (.newarray .int, 2) := by decide +kernel
theorem dX8_init_26 : decode cX8_init 26 = .ok (.putfield 16, 3) := by decide +kernel
theorem dX8_init_29 : decode cX8_init 29 = .ok (.aload_n 0, 1) := by decide +kernel
theorem dX8_init_30 : decode cX8_init 30 = .ok (.bipush 10, 2) := by decide +kernel
theorem dX8_init_32 : decode cX8_init 32 = .ok (.newarray .int, 2) := by decide +kernel
theorem dX8_init_34 : decode cX8_init 34 = .ok (.putfield 19, 3) := by decide +kernel
theorem dX8_init_37 : decode cX8_init 37 = .ok (.aload_n 0, 1) := by decide +kernel
theorem dX8_init_38 : decode cX8_init 38 = .ok (.bipush 10, 2) := by decide +kernel
theorem dX8_init_40 : decode cX8_init 40 = .ok (.newarray .int, 2) := by decide +kernel
theorem dX8_init_42 : decode cX8_init 42 = .ok (.putfield 22, 3) := by decide +kernel
theorem dX8_init_45 : decode cX8_init 45 = .ok (.aload_n 0, 1) := by decide +kernel
theorem dX8_init_46 : decode cX8_init 46 = .ok (.bipush 10, 2) := by decide +kernel
theorem dX8_init_48 : decode cX8_init 48 = .ok (.newarray .int, 2) := by decide +kernel
theorem dX8_init_50 : decode cX8_init 50 = .ok (.putfield 25, 3) := by decide +kernel
theorem dX8_init_53 : decode cX8_init 53 = .ok (.aload_n 0, 1) := by decide +kernel
theorem dX8_init_54 : decode cX8_init 54 = .ok (.bipush 10, 2) := by decide +kernel
theorem dX8_init_56 : decode cX8_init 56 = .ok (.newarray .int, 2) := by decide +kernel
theorem dX8_init_58 : decode cX8_init 58 = .ok (.putfield 28, 3) := by decide +kernel
theorem dX8_init_61 : decode cX8_init 61 = .ok (.aload_n 0, 1) := by decide +kernel
theorem dX8_init_62 : decode cX8_init 62 = .ok (.bipush 10, 2) := by decide +kernel
theorem dX8_init_64 : decode cX8_init 64 = .ok (.newarray .int, 2) := by decide +kernel
theorem dX8_init_66 : decode cX8_init 66 = .ok (.putfield 31, 3) := by decide +kernel
theorem dX8_init_69 : decode cX8_init 69 = .ok (.aload_n 0, 1) := by decide +kernel
theorem dX8_init_70 : decode cX8_init 70 = .ok (.sipush 400, 3) := by decide +kernel
theorem dX8_init_73 : decode cX8_init 73 = .ok (.newarray .boolean, 2) := by decide +kernel
theorem dX8_init_75 : decode cX8_init 75 = .ok (.putfield 34, 3) := by decide +kernel
theorem dX8_init_78 : decode cX8_init 78 = .ok (.aload_n 0, 1) := by decide +kernel
theorem dX8_init_79 : decode cX8_init 79 = .ok (.sipush 4000, 3) := by decide +kernel
theorem dX8_init_82 : decode cX8_init 82 = .ok (.newarray .int, 2) := by decide +kernel
theorem dX8_init_84 : decode cX8_init 84 = .ok (.putfield 38, 3) := by decide +kernel
theorem dX8_init_87 : decode cX8_init 87 = .ok (.aload_n 0, 1) := by decide +kernel
theorem dX8_init_88 : decode cX8_init 88 = .ok (.bipush 10, 2) := by decide +kernel
theorem dX8_init_90 : decode cX8_init 90 = .ok (.newarray .int, 2) := by decide +kernel
theorem dX8_init_92 : decode cX8_init 92 = .ok (.putfield 41, 3) := by decide +kernel
theorem dX8_init_95 : decode cX8_init 95 = .ok (.aload_n 0, 1) := by decide +kernel
theorem dX8_init_96 : decode cX8_init 96 = .ok (.bipush 10, 2) := by decide +kernel
theorem dX8_init_98 : decode cX8_init 98 = .ok (.newarray .int, 2) := by decide +kernel
theorem dX8_init_100 : decode cX8_init 100 = .ok (.putfield 44, 3) := by decide +kernel
theorem dX8_init_103 : decode cX8_init 103 = .ok (.aload_n 0, 1) := by decide +kernel
theorem dX8_init_104 : decode cX8_init 104 = .ok (.bipush 10, 2) := by decide +kernel
theorem dX8_init_106 : decode cX8_init 106 = .ok (.newarray .int, 2) := by decide +kernel
theorem dX8_init_108 : decode cX8_init 108 = .ok (.putfield 47, 3) := by decide +kernel
theorem dX8_init_111 : decode cX8_init 111 = .ok (.aload_n 0, 1) := by decide +kernel
theorem dX8_init_112 : decode cX8_init 112 = .ok (.bipush 10, 2) := by decide +kernel
theorem dX8_init_114 : decode cX8_init 114 = .ok (.newarray .int, 2) := by decide +kernel
theorem dX8_init_116 : decode cX8_init 116 = .ok (.putfield 50, 3) := by decide +kernel
theorem dX8_init_119 : decode cX8_init 119 = .ok (.aload_n 0, 1) := by decide +kernel
theorem dX8_init_120 : decode cX8_init 120 = .ok (.bipush 10, 2) := by decide +kernel
theorem dX8_init_122 : decode cX8_init 122 = .ok (.newarray .int, 2) := by decide +kernel
theorem dX8_init_124 : decode cX8_init 124 = .ok (.putfield 53, 3) := by decide +kernel
theorem dX8_init_127 : decode cX8_init 127 = .ok (.aload_n 0, 1) := by decide +kernel
theorem dX8_init_128 : decode cX8_init 128 = .ok (.bipush 10, 2) := by decide +kernel
theorem dX8_init_130 : decode cX8_init 130 = .ok (.newarray .int, 2) := by decide +kernel
theorem dX8_init_132 : decode cX8_init 132 = .ok (.putfield 56, 3) := by decide +kernel
theorem dX8_init_135 : decode cX8_init 135 = .ok (.aload_n 0, 1) := by decide +kernel
theorem dX8_init_136 : decode cX8_init 136 = .ok (.ldc 59, 2) := by decide +kernel
theorem dX8_init_138 : decode cX8_init 138 = .ok (.newarray .int, 2) := by decide +kernel
theorem dX8_init_140 : decode cX8_init 140 = .ok (.putfield 60, 3) := by decide +kernel
theorem dX8_init_143 : decode cX8_init 143 = .ok (.aload_n 0, 1) := by decide +kernel
theorem dX8_init_144 : decode cX8_init 144 = .ok (.sipush 5040, 3) := by decide +kernel
theorem dX8_init_147 : decode cX8_init 147 = .ok (.newarray .int, 2) := by decide +kernel
theorem dX8_init_149 : decode cX8_init 149 = .ok (.putfield 63, 3) := by decide +kernel
theorem dX8_init_152 : decode cX8_init 152 = .ok (.aload_n 0, 1) := by decide +kernel
theorem dX8_init_153 : decode cX8_init 153 = .ok (.sipush 5040, 3) := by decide +kernel
theorem dX8_init_156 : decode cX8_init 156 = .ok (.newarray .int, 2) := by decide +kernel
theorem dX8_init_158 : decode cX8_init 158 = .ok (.putfield 66, 3) := by decide +kernel
theorem dX8_init_161 : decode cX8_init 161 = .ok (.aload_n 0, 1) := by decide +kernel
theorem dX8_init_162 : decode cX8_init 162 = .ok (.sipush 5040, 3) := by decide +kernel
theorem dX8_init_165 : decode cX8_init 165 = .ok (.newarray .int, 2) := by decide +kernel
theorem dX8_init_167 : decode cX8_init 167 = .ok (.putfield 69, 3) := by decide +kernel
theorem dX8_init_170 : decode cX8_init 170 = .ok (.aload_n 0, 1) := by decide +kernel
theorem dX8_init_171 : decode cX8_init 171 = .ok (.bipush 10, 2) := by decide +kernel
theorem dX8_init_173 : decode cX8_init 173 = .ok (.newarray .int, 2) := by decide +kernel
theorem dX8_init_175 : decode cX8_init 175 = .ok (.putfield 72, 3) := by decide +kernel
theorem dX8_init_178 : decode cX8_init 178 = .ok (.aload_n 0, 1) := by decide +kernel
theorem dX8_init_179 : decode cX8_init 179 = .ok (.bipush 40, 2) := by decide +kernel
theorem dX8_init_181 : decode cX8_init 181 = .ok (.newarray .byte, 2) := by decide +kernel
theorem dX8_init_183 : decode cX8_init 183 = .ok (.putfield 75, 3) := by decide +kernel
theorem dX8_init_186 : decode cX8_init 186 = .ok (.aload_n 0, 1) := by decide +kernel
theorem dX8_init_187 : decode cX8_init 187 = .ok (.sipush 400, 3) := by decide +kernel
theorem dX8_init_190 : decode cX8_init 190 = .ok (.newarray .byte, 2) := by decide +kernel
theorem dX8_init_192 : decode cX8_init 192 = .ok (.putfield 79, 3) := by decide +kernel
theorem dX8_init_195 : decode cX8_init 195 = .ok (.aload_n 0, 1) := by decide +kernel
theorem dX8_init_196 : decode cX8_init 196 = .ok (.iconst (-1), 1) := by decide +kernel
theorem dX8_init_197 : decode cX8_init 197 = .ok (.putfield 82, 3) := by decide +kernel
theorem dX8_init_200 : decode cX8_init 200 = .ok (.aload_n 0, 1) := by decide +kernel
theorem dX8_init_201 : decode cX8_init 201 = .ok (.iconst (-1), 1) := by decide +kernel
theorem dX8_init_202 : decode cX8_init 202 = .ok (.putfield 86, 3) := by decide +kernel
theorem dX8_init_205 : decode cX8_init 205 = .ok (.aload_n 0, 1) := by decide +kernel
theorem dX8_init_206 : decode cX8_init 206 = .ok (.bipush 6, 2) := by decide +kernel
theorem dX8_init_208 : decode cX8_init 208 = .ok (.newarray .long, 2) := by decide +kernel
theorem dX8_init_210 : decode cX8_init 210 = .ok (.putfield 89, 3) := by decide +kernel
theorem dX8_init_213 : decode cX8_init 213 = .ok (.aload_n 0, 1) := by decide +kernel
theorem dX8_init_214 : decode cX8_init 214 = .ok (.bipush 60, 2) := by decide +kernel
theorem dX8_init_216 : decode cX8_init 216 = .ok (.newarray .int, 2) := by decide +kernel
theorem dX8_init_218 : decode cX8_init 218 = .ok (.putfield 93, 3) := by decide +kernel
theorem dX8_init_221 : decode cX8_init 221 = .ok (.aload_n 0, 1) := by decide +kernel
theorem dX8_init_222 : decode cX8_init 222 = .ok (.getfield 16, 3) := by decide +kernel
theorem dX8_init_225 : decode cX8_init 225 = .ok (.invokestatic 96, 3) := by decide +kernel
theorem dX8_init_228 : decode cX8_init 228 = .ok (.aload_n 0, 1) := by decide +kernel
theorem dX8_init_229 : decode cX8_init 229 = .ok (.getfield 16, 3) := by decide +kernel
theorem dX8_init_232 : decode cX8_init 232 = .ok (.iconst 0, 1) := by decide +kernel
theorem dX8_init_233 : decode cX8_init 233 = .ok (.aload_n 0, 1) := by decide +kernel
theorem dX8_init_234 : decode cX8_init 234 = .ok (.getfield 7, 3) := by decide +kernel
theorem dX8_init_237 : decode cX8_init 237 = .ok (.iconst 1, 1) := by decide +kernel
theorem dX8_init_238 : decode cX8_init 238 = .ok (.invokestatic 100, 3) := by decide +kernel
theorem dX8_init_241 : decode cX8_init 241 = .ok (.return_, 1) := by decide +kernel
theorem dX8_status_0 : decode cX8_status 0 = .ok (.aload_n 0, 1) := by decide +kernel
theorem dX8_status_1 : decode cX8_status 1 = .ok (.iconst 0, 1) := by decide +kernel
theorem dX8_status_2 : decode cX8_status 2 = .ok (.putfield 104, 3) := by decide +kernel
theorem dX8_status_5 : decode cX8_status 5 = .ok (.aload_n 0, 1) := by decide +kernel
theorem dX8_status_6 : decode cX8_status 6 = .ok (.getfield 107, 3) := by decide +kernel
theorem dX8_status_9 : decode cX8_status 9 = .ok (.ireturn, 1) := by decide +kernel
theorem dX8_refuse_0 : decode cX8_refuse 0 = .ok (.aload_n 0, 1) := by decide +kernel
theorem dX8_refuse_1 : decode cX8_refuse 1 = .ok (.iload_n 1, 1) := by decide +kernel
theorem dX8_refuse_2 : decode cX8_refuse 2 = .ok (.putfield 107, 3) := by decide +kernel
theorem dX8_refuse_5 : decode cX8_refuse 5 = .ok (.iconst (-1), 1) := by decide +kernel
theorem dX8_refuse_6 : decode cX8_refuse 6 = .ok (.ireturn, 1) := by decide +kernel
theorem dX8_is_0 : decode cX8_is 0 = .ok (.aload_n 0, 1) := by decide +kernel
theorem dX8_is_1 : decode cX8_is 1 = .ok (.iconst 0, 1) := by decide +kernel
theorem dX8_is_2 : decode cX8_is 2 = .ok (.putfield 104, 3) := by decide +kernel
theorem dX8_is_5 : decode cX8_is 5 = .ok (.aload_n 0, 1) := by decide +kernel
theorem dX8_is_6 : decode cX8_is 6 = .ok (.iload_n 1, 1) := by decide +kernel
theorem dX8_is_7 : decode cX8_is 7 = .ok (.putfield 107, 3) := by decide +kernel
theorem dX8_is_10 : decode cX8_is 10 = .ok (.iload_n 1, 1) := by decide +kernel
theorem dX8_is_11 : decode cX8_is 11 = .ok (.ifCond .ne 7, 3) := by decide +kernel
theorem dX8_is_14 : decode cX8_is 14 = .ok (.iconst 1, 1) := by decide +kernel
theorem dX8_is_15 : decode cX8_is 15 = .ok (.goto 4, 3) := by decide +kernel
theorem dX8_is_18 : decode cX8_is 18 = .ok (.iconst 0, 1) := by decide +kernel
theorem dX8_is_19 : decode cX8_is 19 = .ok (.ireturn, 1) := by decide +kernel
theorem dX8_isIn_0 : decode cX8_isIn 0 = .ok (.lload_n 0, 1) := by decide +kernel
theorem dX8_isIn_1 : decode cX8_isIn 1 = .ok (.lload_n 2, 1) := by decide +kernel
theorem dX8_isIn_2 : decode cX8_isIn 2 = .ok (.lcmp, 1) := by decide +kernel
theorem dX8_isIn_3 : decode cX8_isIn 3 = .ok (.ifCond .lt 14, 3) := by decide +kernel
theorem dX8_isIn_6 : decode cX8_isIn 6 = .ok (.lload_n 0, 1) := by decide +kernel
theorem dX8_isIn_7 : decode cX8_isIn 7 = .ok (.lload 4, 2) := by decide +kernel
theorem dX8_isIn_9 : decode cX8_isIn 9 = .ok (.lcmp, 1) := by decide +kernel
theorem dX8_isIn_10 : decode cX8_isIn 10 = .ok (.ifCond .gt 7, 3) := by decide +kernel
theorem dX8_isIn_13 : decode cX8_isIn 13 = .ok (.iconst 1, 1) := by decide +kernel
theorem dX8_isIn_14 : decode cX8_isIn 14 = .ok (.goto 4, 3) := by decide +kernel
theorem dX8_isIn_17 : decode cX8_isIn 17 = .ok (.iconst 0, 1) := by decide +kernel
theorem dX8_isIn_18 : decode cX8_isIn 18 = .ok (.ireturn, 1) := by decide +kernel
theorem dX8_bit_0 : decode cX8_bit 0 = .ok (.iload_n 0, 1) := by decide +kernel
theorem dX8_bit_1 : decode cX8_bit 1 = .ok (.iload_n 1, 1) := by decide +kernel
theorem dX8_bit_2 : decode cX8_bit 2 = .ok (.ishr, 1) := by decide +kernel
theorem dX8_bit_3 : decode cX8_bit 3 = .ok (.iconst 1, 1) := by decide +kernel
theorem dX8_bit_4 : decode cX8_bit 4 = .ok (.iand, 1) := by decide +kernel
theorem dX8_bit_5 : decode cX8_bit 5 = .ok (.iconst 1, 1) := by decide +kernel
theorem dX8_bit_6 : decode cX8_bit 6 = .ok (.if_icmp .ne 7, 3) := by decide +kernel
theorem dX8_bit_9 : decode cX8_bit 9 = .ok (.iconst 1, 1) := by decide +kernel
theorem dX8_bit_10 : decode cX8_bit 10 = .ok (.goto 4, 3) := by decide +kernel
theorem dX8_bit_13 : decode cX8_bit 13 = .ok (.iconst 0, 1) := by decide +kernel
theorem dX8_bit_14 : decode cX8_bit 14 = .ok (.ireturn, 1) := by decide +kernel
theorem dX8_bits_0 : decode cX8_bits 0 = .ok (.iconst 0, 1) := by decide +kernel
theorem dX8_bits_1 : decode cX8_bits 1 = .ok (.istore_n 1, 1) := by decide +kernel
theorem dX8_bits_2 : decode cX8_bits 2 = .ok (.iload_n 0, 1) := by decide +kernel
theorem dX8_bits_3 : decode cX8_bits 3 = .ok (.istore_n 2, 1) := by decide +kernel
theorem dX8_bits_4 : decode cX8_bits 4 = .ok (.iload_n 2, 1) := by decide +kernel
theorem dX8_bits_5 : decode cX8_bits 5 = .ok (.ifCond .eq 15, 3) := by decide +kernel
theorem dX8_bits_8 : decode cX8_bits 8 = .ok (.iinc 1 1, 3) := by decide +kernel
theorem dX8_bits_11 : decode cX8_bits 11 = .ok (.iload_n 2, 1) := by decide +kernel
theorem dX8_bits_12 : decode cX8_bits 12 = .ok (.iload_n 2, 1) := by decide +kernel
theorem dX8_bits_13 : decode cX8_bits 13 = .ok (.iconst 1, 1) := by decide +kernel
theorem dX8_bits_14 : decode cX8_bits 14 = .ok (.isub, 1) := by decide +kernel
theorem dX8_bits_15 : decode cX8_bits 15 = .ok (.iand, 1) := by decide +kernel
theorem dX8_bits_16 : decode cX8_bits 16 = .ok (.istore_n 2, 1) := by decide +kernel
theorem dX8_bits_17 : decode cX8_bits 17 = .ok (.goto (-13), 3) := by decide +kernel
theorem dX8_bits_20 : decode cX8_bits 20 = .ok (.iload_n 1, 1) := by decide +kernel
theorem dX8_bits_21 : decode cX8_bits 21 = .ok (.ireturn, 1) := by decide +kernel
theorem dX8_common_0 : decode cX8_common 0 = .ok (.iload_n 0, 1) := by decide +kernel
theorem dX8_common_1 : decode cX8_common 1 = .ok (.istore_n 2, 1) := by decide +kernel
theorem dX8_common_2 : decode cX8_common 2 = .ok (.iload_n 1, 1) := by decide +kernel
theorem dX8_common_3 : decode cX8_common 3 = .ok (.istore_n 3, 1) := by decide +kernel
theorem dX8_common_4 : decode cX8_common 4 = .ok (.iload_n 3, 1) := by decide +kernel
theorem dX8_common_5 : decode cX8_common 5 = .ok (.ifCond .eq 16, 3) := by decide +kernel
theorem dX8_common_8 : decode cX8_common 8 = .ok (.iload_n 2, 1) := by decide +kernel
theorem dX8_common_9 : decode cX8_common 9 = .ok (.iload_n 3, 1) := by decide +kernel
theorem dX8_common_10 : decode cX8_common 10 = .ok (.irem, 1) := by decide +kernel
theorem dX8_common_11 : decode cX8_common 11 = .ok (.istore 4, 2) := by decide +kernel
theorem dX8_common_13 : decode cX8_common 13 = .ok (.iload_n 3, 1) := by decide +kernel
theorem dX8_common_14 : decode cX8_common 14 = .ok (.istore_n 2, 1) := by decide +kernel
theorem dX8_common_15 : decode cX8_common 15 = .ok (.iload 4, 2) := by decide +kernel
theorem dX8_common_17 : decode cX8_common 17 = .ok (.istore_n 3, 1) := by decide +kernel
theorem dX8_common_18 : decode cX8_common 18 = .ok (.goto (-14), 3) := by decide +kernel
theorem dX8_common_21 : decode cX8_common 21 = .ok (.iload_n 2, 1) := by decide +kernel
theorem dX8_common_22 : decode cX8_common 22 = .ok (.ireturn, 1) := by decide +kernel
theorem dX8_moves_0 : decode cX8_moves 0 = .ok (.aload_n 0, 1) := by decide +kernel
theorem dX8_moves_1 : decode cX8_moves 1 = .ok (.getfield 7, 3) := by decide +kernel
theorem dX8_moves_4 : decode cX8_moves 4 = .ok (.iconst 0, 1) := by decide +kernel
theorem dX8_moves_5 : decode cX8_moves 5 = .ok (.iaload, 1) := by decide +kernel
theorem dX8_moves_6 : decode cX8_moves 6 = .ok (.ireturn, 1) := by decide +kernel
theorem dX8_isMove_0 : decode cX8_isMove 0 = .ok (.iload_n 1, 1) := by decide +kernel
theorem dX8_isMove_1 : decode cX8_isMove 1 = .ok (.i2l, 1) := by decide +kernel
theorem dX8_isMove_2 : decode cX8_isMove 2 = .ok (.lconst 0, 1) := by decide +kernel
theorem dX8_isMove_3 : decode cX8_isMove 3 = .ok (.aload_n 0, 1) := by decide +kernel
theorem dX8_isMove_4 : decode cX8_isMove 4 = .ok (.invokevirtual 110, 3) := by decide +kernel
theorem dX8_isMove_7 : decode cX8_isMove 7 = .ok (.iconst 1, 1) := by decide +kernel
theorem dX8_isMove_8 : decode cX8_isMove 8 = .ok (.isub, 1) := by decide +kernel
theorem dX8_isMove_9 : decode cX8_isMove 9 = .ok (.i2l, 1) := by decide +kernel
theorem dX8_isMove_10 : decode cX8_isMove 10 = .ok (.invokestatic 114, 3) := by decide +kernel
theorem dX8_isMove_13 : decode cX8_isMove 13 = .ok (.ireturn, 1) := by decide +kernel
theorem dX8_isStep_0 : decode cX8_isStep 0 = .ok (.iload_n 1, 1) := by decide +kernel
theorem dX8_isStep_1 : decode cX8_isStep 1 = .ok (.i2l, 1) := by decide +kernel
theorem dX8_isStep_2 : decode cX8_isStep 2 = .ok (.lconst 0, 1) := by decide +kernel
theorem dX8_isStep_3 : decode cX8_isStep 3 = .ok (.iconst 2, 1) := by decide +kernel
theorem dX8_isStep_4 : decode cX8_isStep 4 = .ok (.aload_n 0, 1) := by decide +kernel
theorem dX8_isStep_5 : decode cX8_isStep 5 = .ok (.invokevirtual 110, 3) := by decide +kernel
theorem dX8_isStep_8 : decode cX8_isStep 8 = .ok (.imul, 1) := by decide +kernel
theorem dX8_isStep_9 : decode cX8_isStep 9 = .ok (.iconst 1, 1) := by decide +kernel
theorem dX8_isStep_10 : decode cX8_isStep 10 = .ok (.isub, 1) := by decide +kernel
theorem dX8_isStep_11 : decode cX8_isStep 11 = .ok (.i2l, 1) := by decide +kernel
theorem dX8_isStep_12 : decode cX8_isStep 12 = .ok (.invokestatic 114, 3) := by decide +kernel
theorem dX8_isStep_15 : decode cX8_isStep 15 = .ok (.ireturn, 1) := by decide +kernel
theorem dX8_isPoint_0 : decode cX8_isPoint 0 = .ok (.iload_n 1, 1) := by decide +kernel
theorem dX8_isPoint_1 : decode cX8_isPoint 1 = .ok (.i2l, 1) := by decide +kernel
theorem dX8_isPoint_2 : decode cX8_isPoint 2 = .ok (.lconst 0, 1) := by decide +kernel
theorem dX8_isPoint_3 : decode cX8_isPoint 3 = .ok (.aload_n 0, 1) := by decide +kernel
theorem dX8_isPoint_4 : decode cX8_isPoint 4 = .ok (.getfield 118, 3) := by decide +kernel
theorem dX8_isPoint_7 : decode cX8_isPoint 7 = .ok (.iconst 1, 1) := by decide +kernel
theorem dX8_isPoint_8 : decode cX8_isPoint 8 = .ok (.isub, 1) := by decide +kernel
theorem dX8_isPoint_9 : decode cX8_isPoint 9 = .ok (.i2l, 1) := by decide +kernel
theorem dX8_isPoint_10 : decode cX8_isPoint 10 = .ok (.invokestatic 114, 3) := by decide +kernel
theorem dX8_isPoint_13 : decode cX8_isPoint 13 = .ok (.ireturn, 1) := by decide +kernel
theorem dX8_isSet_0 : decode cX8_isSet 0 = .ok (.iload_n 1, 1) := by decide +kernel
theorem dX8_isSet_1 : decode cX8_isSet 1 = .ok (.i2l, 1) := by decide +kernel
theorem dX8_isSet_2 : decode cX8_isSet 2 = .ok (.lconst 1, 1) := by decide +kernel
theorem dX8_isSet_3 : decode cX8_isSet 3 = .ok (.iconst 1, 1) := by decide +kernel
theorem dX8_isSet_4 : decode cX8_isSet 4 = .ok (.aload_n 0, 1) := by decide +kernel
theorem dX8_isSet_5 : decode cX8_isSet 5 = .ok (.getfield 118, 3) := by decide +kernel
theorem dX8_isSet_8 : decode cX8_isSet 8 = .ok (.ishl, 1) := by decide +kernel
theorem dX8_isSet_9 : decode cX8_isSet 9 = .ok (.iconst 1, 1) := by decide +kernel
theorem dX8_isSet_10 : decode cX8_isSet 10 = .ok (.isub, 1) := by decide +kernel
theorem dX8_isSet_11 : decode cX8_isSet 11 = .ok (.i2l, 1) := by decide +kernel
theorem dX8_isSet_12 : decode cX8_isSet 12 = .ok (.invokestatic 114, 3) := by decide +kernel
theorem dX8_isSet_15 : decode cX8_isSet 15 = .ok (.ireturn, 1) := by decide +kernel
theorem dX8_areMoves_0 : decode cX8_areMoves 0 = .ok (.iload_n 1, 1) := by decide +kernel
theorem dX8_areMoves_1 : decode cX8_areMoves 1 = .ok (.i2l, 1) := by decide +kernel
theorem dX8_areMoves_2 : decode cX8_areMoves 2 = .ok (.lconst 0, 1) := by decide +kernel
theorem dX8_areMoves_3 : decode cX8_areMoves 3 = .ok (.iconst 1, 1) := by decide +kernel
theorem dX8_areMoves_4 : decode cX8_areMoves 4 = .ok (.aload_n 0, 1) := by decide +kernel
theorem dX8_areMoves_5 : decode cX8_areMoves 5 = .ok (.invokevirtual 110, 3) := by decide +kernel
theorem dX8_areMoves_8 : decode cX8_areMoves 8 = .ok (.ishl, 1) := by decide +kernel
theorem dX8_areMoves_9 : decode cX8_areMoves 9 = .ok (.iconst 1, 1) := by decide +kernel
theorem dX8_areMoves_10 : decode cX8_areMoves 10 = .ok (.isub, 1) := by decide +kernel
theorem dX8_areMoves_11 : decode cX8_areMoves 11 = .ok (.i2l, 1) := by decide +kernel
theorem dX8_areMoves_12 : decode cX8_areMoves 12 = .ok (.invokestatic 114, 3) := by decide +kernel
theorem dX8_areMoves_15 : decode cX8_areMoves 15 = .ok (.ireturn, 1) := by decide +kernel
theorem dX8_remembers_0 : decode cX8_remembers 0 = .ok (.aload_n 0, 1) := by decide +kernel
theorem dX8_remembers_1 : decode cX8_remembers 1 = .ok (.getfield 121, 3) := by decide +kernel
theorem dX8_remembers_4 : decode cX8_remembers 4 = .ok (.bipush 12, 2) := by decide +kernel
theorem dX8_remembers_6 : decode cX8_remembers 6 = .ok (.if_icmp .ne 43, 3) := by decide +kernel
theorem dX8_remembers_9 : decode cX8_remembers 9 = .ok (.iconst 0, 1) := by decide +kernel
theorem dX8_remembers_10 : decode cX8_remembers 10 = .ok (.istore_n 1, 1) := by decide +kernel
theorem dX8_remembers_11 : decode cX8_remembers 11 = .ok (.iload_n 1, 1) := by decide +kernel
theorem dX8_remembers_12 : decode cX8_remembers 12 = .ok (.sipush 781, 3) := by decide +kernel
theorem dX8_remembers_15 : decode cX8_remembers 15 = .ok (.if_icmp .ge 24, 3) := by decide +kernel
theorem dX8_remembers_18 : decode cX8_remembers 18 = .ok (.aload_n 0, 1) := by decide +kernel
theorem dX8_remembers_19 : decode cX8_remembers 19 = .ok (.getfield 13, 3) := by decide +kernel
theorem dX8_remembers_22 : decode cX8_remembers 22 = .ok (.iload_n 1, 1) := by decide +kernel
theorem dX8_remembers_23 : decode cX8_remembers 23 = .ok (.aload_n 0, 1) := by decide +kernel
theorem dX8_remembers_24 : decode cX8_remembers 24 = .ok (.getfield 13, 3) := by decide +kernel
theorem dX8_remembers_27 : decode cX8_remembers 27 = .ok (.iload_n 1, 1) := by decide +kernel
theorem dX8_remembers_28 : decode cX8_remembers 28 = .ok (.bipush 71, 2) := by decide +kernel
theorem dX8_remembers_30 : decode cX8_remembers 30 = .ok (.iadd, 1) := by decide +kernel
theorem dX8_remembers_31 : decode cX8_remembers 31 = .ok (.iaload, 1) := by decide +kernel
theorem dX8_remembers_32 : decode cX8_remembers 32 = .ok (.iastore, 1) := by decide +kernel
theorem dX8_remembers_33 : decode cX8_remembers 33 = .ok (.iinc 1 1, 3) := by decide +kernel
theorem dX8_remembers_36 : decode cX8_remembers 36 = .ok (.goto (-25), 3) := by decide +kernel
theorem dX8_remembers_39 : decode cX8_remembers 39 = .ok (.aload_n 0, 1) := by decide +kernel
theorem dX8_remembers_40 : decode cX8_remembers 40 = .ok (.dup, 1) := by decide +kernel
theorem dX8_remembers_41 : decode cX8_remembers 41 = .ok (.getfield 121, 3) := by decide +kernel
theorem dX8_remembers_44 : decode cX8_remembers 44 = .ok (.iconst 1, 1) := by decide +kernel
theorem dX8_remembers_45 : decode cX8_remembers 45 = .ok (.isub, 1) := by decide +kernel
theorem dX8_remembers_46 : decode cX8_remembers 46 = .ok (.putfield 121, 3) := by decide +kernel
theorem dX8_remembers_49 : decode cX8_remembers 49 = .ok (.iconst 0, 1) := by decide +kernel
theorem dX8_remembers_50 : decode cX8_remembers 50 = .ok (.istore_n 1, 1) := by decide +kernel
theorem dX8_remembers_51 : decode cX8_remembers 51 = .ok (.iload_n 1, 1) := by decide +kernel
theorem dX8_remembers_52 : decode cX8_remembers 52 = .ok (.bipush 71, 2) := by decide +kernel
theorem dX8_remembers_54 : decode cX8_remembers 54 = .ok (.if_icmp .ge 29, 3) := by decide +kernel
theorem dX8_remembers_57 : decode cX8_remembers 57 = .ok (.aload_n 0, 1) := by decide +kernel
theorem dX8_remembers_58 : decode cX8_remembers 58 = .ok (.getfield 13, 3) := by decide +kernel
theorem dX8_remembers_61 : decode cX8_remembers 61 = .ok (.bipush 71, 2) := by decide +kernel
theorem dX8_remembers_63 : decode cX8_remembers 63 = .ok (.aload_n 0, 1) := by decide +kernel
theorem dX8_remembers_64 : decode cX8_remembers 64 = .ok (.getfield 121, 3) := by decide +kernel
theorem dX8_remembers_67 : decode cX8_remembers 67 = .ok (.imul, 1) := by decide +kernel
theorem dX8_remembers_68 : decode cX8_remembers 68 = .ok (.iload_n 1, 1) := by decide +kernel
theorem dX8_remembers_69 : decode cX8_remembers 69 = .ok (.iadd, 1) := by decide +kernel
theorem dX8_remembers_70 : decode cX8_remembers 70 = .ok (.aload_n 0, 1) := by decide +kernel
theorem dX8_remembers_71 : decode cX8_remembers 71 = .ok (.getfield 7, 3) := by decide +kernel
theorem dX8_remembers_74 : decode cX8_remembers 74 = .ok (.iload_n 1, 1) := by decide +kernel
theorem dX8_remembers_75 : decode cX8_remembers 75 = .ok (.iaload, 1) := by decide +kernel
theorem dX8_remembers_76 : decode cX8_remembers 76 = .ok (.iastore, 1) := by decide +kernel
theorem dX8_remembers_77 : decode cX8_remembers 77 = .ok (.iinc 1 1, 3) := by decide +kernel
theorem dX8_remembers_80 : decode cX8_remembers 80 = .ok (.goto (-29), 3) := by decide +kernel
theorem dX8_remembers_83 : decode cX8_remembers 83 = .ok (.aload_n 0, 1) := by decide +kernel
theorem dX8_remembers_84 : decode cX8_remembers 84 = .ok (.dup, 1) := by decide +kernel
theorem dX8_remembers_85 : decode cX8_remembers 85 = .ok (.getfield 121, 3) := by decide +kernel
theorem dX8_remembers_88 : decode cX8_remembers 88 = .ok (.iconst 1, 1) := by decide +kernel
theorem dX8_remembers_89 : decode cX8_remembers 89 = .ok (.iadd, 1) := by decide +kernel
theorem dX8_remembers_90 : decode cX8_remembers 90 = .ok (.putfield 121, 3) := by decide +kernel
theorem dX8_remembers_93 : decode cX8_remembers 93 = .ok (.return_, 1) := by decide +kernel
theorem dX8_copies_0 : decode cX8_copies 0 = .ok (.iconst 0, 1) := by decide +kernel
theorem dX8_copies_1 : decode cX8_copies 1 = .ok (.istore 4, 2) := by decide +kernel
theorem dX8_copies_3 : decode cX8_copies 3 = .ok (.iload 4, 2) := by decide +kernel
theorem dX8_copies_5 : decode cX8_copies 5 = .ok (.bipush 10, 2) := by decide +kernel
theorem dX8_copies_7 : decode cX8_copies 7 = .ok (.if_icmp .ge 21, 3) := by decide +kernel
theorem dX8_copies_10 : decode cX8_copies 10 = .ok (.aload_n 2, 1) := by decide +kernel
theorem dX8_copies_11 : decode cX8_copies 11 = .ok (.iload_n 3, 1) := by decide +kernel
theorem dX8_copies_12 : decode cX8_copies 12 = .ok (.iload 4, 2) := by decide +kernel
theorem dX8_copies_14 : decode cX8_copies 14 = .ok (.iadd, 1) := by decide +kernel
theorem dX8_copies_15 : decode cX8_copies 15 = .ok (.aload_n 0, 1) := by decide +kernel
theorem dX8_copies_16 : decode cX8_copies 16 = .ok (.iload_n 1, 1) := by decide +kernel
theorem dX8_copies_17 : decode cX8_copies 17 = .ok (.iload 4, 2) := by decide +kernel
theorem dX8_copies_19 : decode cX8_copies 19 = .ok (.iadd, 1) := by decide +kernel
theorem dX8_copies_20 : decode cX8_copies 20 = .ok (.iaload, 1) := by decide +kernel
theorem dX8_copies_21 : decode cX8_copies 21 = .ok (.iastore, 1) := by decide +kernel
theorem dX8_copies_22 : decode cX8_copies 22 = .ok (.iinc 4 1, 3) := by decide +kernel
theorem dX8_copies_25 : decode cX8_copies 25 = .ok (.goto (-22), 3) := by decide +kernel
theorem dX8_copies_28 : decode cX8_copies 28 = .ok (.return_, 1) := by decide +kernel
theorem dX8_isHome_0 : decode cX8_isHome 0 = .ok (.iconst 0, 1) := by decide +kernel
theorem dX8_isHome_1 : decode cX8_isHome 1 = .ok (.istore_n 1, 1) := by decide +kernel
theorem dX8_isHome_2 : decode cX8_isHome 2 = .ok (.iload_n 1, 1) := by decide +kernel
theorem dX8_isHome_3 : decode cX8_isHome 3 = .ok (.bipush 10, 2) := by decide +kernel
theorem dX8_isHome_5 : decode cX8_isHome 5 = .ok (.if_icmp .ge 13, 3) := by decide +kernel
theorem dX8_isHome_8 : decode cX8_isHome 8 = .ok (.aload_n 0, 1) := by decide +kernel
theorem dX8_isHome_9 : decode cX8_isHome 9 = .ok (.iload_n 1, 1) := by decide +kernel
theorem dX8_isHome_10 : decode cX8_isHome 10 = .ok (.iload_n 1, 1) := by decide +kernel
theorem dX8_isHome_11 : decode cX8_isHome 11 = .ok (.iastore, 1) := by decide +kernel
theorem dX8_isHome_12 : decode cX8_isHome 12 = .ok (.iinc 1 1, 3) := by decide +kernel
theorem dX8_isHome_15 : decode cX8_isHome 15 = .ok (.goto (-13), 3) := by decide +kernel
theorem dX8_isHome_18 : decode cX8_isHome 18 = .ok (.return_, 1) := by decide +kernel
theorem dX8_makes_0 : decode cX8_makes 0 = .ok (.iconst 0, 1) := by decide +kernel
theorem dX8_makes_1 : decode cX8_makes 1 = .ok (.istore_n 3, 1) := by decide +kernel
theorem dX8_makes_2 : decode cX8_makes 2 = .ok (.iload_n 3, 1) := by decide +kernel
theorem dX8_makes_3 : decode cX8_makes 3 = .ok (.bipush 10, 2) := by decide +kernel
theorem dX8_makes_5 : decode cX8_makes 5 = .ok (.if_icmp .ge 17, 3) := by decide +kernel
theorem dX8_makes_8 : decode cX8_makes 8 = .ok (.aload_n 2, 1) := by decide +kernel
theorem dX8_makes_9 : decode cX8_makes 9 = .ok (.iload_n 3, 1) := by decide +kernel
theorem dX8_makes_10 : decode cX8_makes 10 = .ok (.aload_n 1, 1) := by decide +kernel
theorem dX8_makes_11 : decode cX8_makes 11 = .ok (.aload_n 0, 1) := by decide +kernel
theorem dX8_makes_12 : decode cX8_makes 12 = .ok (.iload_n 3, 1) := by decide +kernel
theorem dX8_makes_13 : decode cX8_makes 13 = .ok (.iaload, 1) := by decide +kernel
theorem dX8_makes_14 : decode cX8_makes 14 = .ok (.iaload, 1) := by decide +kernel
theorem dX8_makes_15 : decode cX8_makes 15 = .ok (.iastore, 1) := by decide +kernel
theorem dX8_makes_16 : decode cX8_makes 16 = .ok (.iinc 3 1, 3) := by decide +kernel
theorem dX8_makes_19 : decode cX8_makes 19 = .ok (.goto (-17), 3) := by decide +kernel
theorem dX8_makes_22 : decode cX8_makes 22 = .ok (.return_, 1) := by decide +kernel
theorem dX8_inverts_0 : decode cX8_inverts 0 = .ok (.iconst 0, 1) := by decide +kernel
theorem dX8_inverts_1 : decode cX8_inverts 1 = .ok (.istore_n 2, 1) := by decide +kernel
theorem dX8_inverts_2 : decode cX8_inverts 2 = .ok (.iload_n 2, 1) := by decide +kernel
theorem dX8_inverts_3 : decode cX8_inverts 3 = .ok (.bipush 10, 2) := by decide +kernel
theorem dX8_inverts_5 : decode cX8_inverts 5 = .ok (.if_icmp .ge 15, 3) := by decide +kernel
theorem dX8_inverts_8 : decode cX8_inverts 8 = .ok (.aload_n 1, 1) := by decide +kernel
theorem dX8_inverts_9 : decode cX8_inverts 9 = .ok (.aload_n 0, 1) := by decide +kernel
theorem dX8_inverts_10 : decode cX8_inverts 10 = .ok (.iload_n 2, 1) := by decide +kernel
theorem dX8_inverts_11 : decode cX8_inverts 11 = .ok (.iaload, 1) := by decide +kernel
theorem dX8_inverts_12 : decode cX8_inverts 12 = .ok (.iload_n 2, 1) := by decide +kernel
theorem dX8_inverts_13 : decode cX8_inverts 13 = .ok (.iastore, 1) := by decide +kernel
theorem dX8_inverts_14 : decode cX8_inverts 14 = .ok (.iinc 2 1, 3) := by decide +kernel
theorem dX8_inverts_17 : decode cX8_inverts 17 = .ok (.goto (-15), 3) := by decide +kernel
theorem dX8_inverts_20 : decode cX8_inverts 20 = .ok (.return_, 1) := by decide +kernel
theorem dX8_areSame_0 : decode cX8_areSame 0 = .ok (.iconst 0, 1) := by decide +kernel
theorem dX8_areSame_1 : decode cX8_areSame 1 = .ok (.istore_n 2, 1) := by decide +kernel
theorem dX8_areSame_2 : decode cX8_areSame 2 = .ok (.iload_n 2, 1) := by decide +kernel
theorem dX8_areSame_3 : decode cX8_areSame 3 = .ok (.bipush 10, 2) := by decide +kernel
theorem dX8_areSame_5 : decode cX8_areSame 5 = .ok (.if_icmp .ge 20, 3) := by decide +kernel
theorem dX8_areSame_8 : decode cX8_areSame 8 = .ok (.aload_n 0, 1) := by decide +kernel
theorem dX8_areSame_9 : decode cX8_areSame 9 = .ok (.iload_n 2, 1) := by decide +kernel
theorem dX8_areSame_10 : decode cX8_areSame 10 = .ok (.iaload, 1) := by decide +kernel
theorem dX8_areSame_11 : decode cX8_areSame 11 = .ok (.aload_n 1, 1) := by decide +kernel
theorem dX8_areSame_12 : decode cX8_areSame 12 = .ok (.iload_n 2, 1) := by decide +kernel
theorem dX8_areSame_13 : decode cX8_areSame 13 = .ok (.iaload, 1) := by decide +kernel
theorem dX8_areSame_14 : decode cX8_areSame 14 = .ok (.if_icmp .eq 5, 3) := by decide +kernel
theorem dX8_areSame_17 : decode cX8_areSame 17 = .ok (.iconst 0, 1) := by decide +kernel
theorem dX8_areSame_18 : decode cX8_areSame 18 = .ok (.ireturn, 1) := by decide +kernel
theorem dX8_areSame_19 : decode cX8_areSame 19 = .ok (.iinc 2 1, 3) := by decide +kernel
theorem dX8_areSame_22 : decode cX8_areSame 22 = .ok (.goto (-20), 3) := by decide +kernel
theorem dX8_areSame_25 : decode cX8_areSame 25 = .ok (.iconst 1, 1) := by decide +kernel
theorem dX8_areSame_26 : decode cX8_areSame 26 = .ok (.ireturn, 1) := by decide +kernel
theorem dX8_stays_0 : decode cX8_stays 0 = .ok (.iconst 0, 1) := by decide +kernel
theorem dX8_stays_1 : decode cX8_stays 1 = .ok (.istore_n 1, 1) := by decide +kernel
theorem dX8_stays_2 : decode cX8_stays 2 = .ok (.iload_n 1, 1) := by decide +kernel
theorem dX8_stays_3 : decode cX8_stays 3 = .ok (.bipush 10, 2) := by decide +kernel
theorem dX8_stays_5 : decode cX8_stays 5 = .ok (.if_icmp .ge 18, 3) := by decide +kernel
theorem dX8_stays_8 : decode cX8_stays 8 = .ok (.aload_n 0, 1) := by decide +kernel
theorem dX8_stays_9 : decode cX8_stays 9 = .ok (.iload_n 1, 1) := by decide +kernel
theorem dX8_stays_10 : decode cX8_stays 10 = .ok (.iaload, 1) := by decide +kernel
theorem dX8_stays_11 : decode cX8_stays 11 = .ok (.iload_n 1, 1) := by decide +kernel
theorem dX8_stays_12 : decode cX8_stays 12 = .ok (.if_icmp .eq 5, 3) := by decide +kernel
theorem dX8_stays_15 : decode cX8_stays 15 = .ok (.iconst 0, 1) := by decide +kernel
theorem dX8_stays_16 : decode cX8_stays 16 = .ok (.ireturn, 1) := by decide +kernel
theorem dX8_stays_17 : decode cX8_stays 17 = .ok (.iinc 1 1, 3) := by decide +kernel
theorem dX8_stays_20 : decode cX8_stays 20 = .ok (.goto (-18), 3) := by decide +kernel
theorem dX8_stays_23 : decode cX8_stays 23 = .ok (.iconst 1, 1) := by decide +kernel
theorem dX8_stays_24 : decode cX8_stays 24 = .ok (.ireturn, 1) := by decide +kernel
theorem dX8_lies_0 : decode cX8_lies 0 = .ok (.aload_n 3, 1) := by decide +kernel
theorem dX8_lies_1 : decode cX8_lies 1 = .ok (.invokestatic 96, 3) := by decide +kernel
theorem dX8_lies_4 : decode cX8_lies 4 = .ok (.iconst 0, 1) := by decide +kernel
theorem dX8_lies_5 : decode cX8_lies 5 = .ok (.istore 4, 2) := by decide +kernel
theorem dX8_lies_7 : decode cX8_lies 7 = .ok (.lload_n 1, 1) := by decide +kernel
theorem dX8_lies_8 : decode cX8_lies 8 = .ok (.lstore 5, 2) := by decide +kernel
theorem dX8_lies_10 : decode cX8_lies 10 = .ok (.aload_n 0, 1) := by decide +kernel
theorem dX8_lies_11 : decode cX8_lies 11 = .ok (.getfield 118, 3) := by decide +kernel
theorem dX8_lies_14 : decode cX8_lies 14 = .ok (.iconst 1, 1) := by decide +kernel
theorem dX8_lies_15 : decode cX8_lies 15 = .ok (.isub, 1) := by decide +kernel
theorem dX8_lies_16 : decode cX8_lies 16 = .ok (.istore 7, 2) := by decide +kernel
theorem dX8_lies_18 : decode cX8_lies 18 = .ok (.iload 7, 2) := by decide +kernel
theorem dX8_lies_20 : decode cX8_lies 20 = .ok (.ifCond .lt 50, 3) := by decide +kernel
theorem dX8_lies_23 : decode cX8_lies 23 = .ok (.aload_n 3, 1) := by decide +kernel
theorem dX8_lies_24 : decode cX8_lies 24 = .ok (.iload 7, 2) := by decide +kernel
theorem dX8_lies_26 : decode cX8_lies 26 = .ok (.lload 5, 2) := by decide +kernel
theorem dX8_lies_28 : decode cX8_lies 28 = .ok (.ldc2_w 124, 3) := by decide +kernel
theorem dX8_lies_31 : decode cX8_lies 31 = .ok (.lrem, 1) := by decide +kernel
theorem dX8_lies_32 : decode cX8_lies 32 = .ok (.l2i, 1) := by decide +kernel
theorem dX8_lies_33 : decode cX8_lies 33 = .ok (.iastore, 1) := by decide +kernel
theorem dX8_lies_34 : decode cX8_lies 34 = .ok (.iload 4, 2) := by decide +kernel
theorem dX8_lies_36 : decode cX8_lies 36 = .ok (.lload 5, 2) := by decide +kernel
theorem dX8_lies_38 : decode cX8_lies 38 = .ok (.lconst 0, 1) := by decide +kernel
theorem dX8_lies_39 : decode cX8_lies 39 = .ok (.lcmp, 1) := by decide +kernel
theorem dX8_lies_40 : decode cX8_lies 40 = .ok (.ifCond .ge 7, 3) := by decide +kernel
theorem dX8_lies_43 : decode cX8_lies 43 = .ok (.iconst 0, 1) := by decide +kernel
theorem dX8_lies_44 : decode cX8_lies 44 = .ok (.goto 9, 3) := by decide +kernel
theorem dX8_lies_47 : decode cX8_lies 47 = .ok (.iconst 1, 1) := by decide +kernel
theorem dX8_lies_48 : decode cX8_lies 48 = .ok (.aload_n 3, 1) := by decide +kernel
theorem dX8_lies_49 : decode cX8_lies 49 = .ok (.iload 7, 2) := by decide +kernel
theorem dX8_lies_51 : decode cX8_lies 51 = .ok (.iaload, 1) := by decide +kernel
theorem dX8_lies_52 : decode cX8_lies 52 = .ok (.ishl, 1) := by decide +kernel
theorem dX8_lies_53 : decode cX8_lies 53 = .ok (.ior, 1) := by decide +kernel
theorem dX8_lies_54 : decode cX8_lies 54 = .ok (.istore 4, 2) := by decide +kernel
theorem dX8_lies_56 : decode cX8_lies 56 = .ok (.lload 5, 2) := by decide +kernel
theorem dX8_lies_58 : decode cX8_lies 58 = .ok (.ldc2_w 124, 3) := by decide +kernel
theorem dX8_lies_61 : decode cX8_lies 61 = .ok (.ldiv, 1) := by decide +kernel
theorem dX8_lies_62 : decode cX8_lies 62 = .ok (.lstore 5, 2) := by decide +kernel
theorem dX8_lies_64 : decode cX8_lies 64 = .ok (.iinc 7 (-1), 3) := by decide +kernel
theorem dX8_lies_67 : decode cX8_lies 67 = .ok (.goto (-49), 3) := by decide +kernel
theorem dX8_lies_70 : decode cX8_lies 70 = .ok (.aload_n 0, 1) := by decide +kernel
theorem dX8_lies_71 : decode cX8_lies 71 = .ok (.getfield 118, 3) := by decide +kernel
theorem dX8_lies_74 : decode cX8_lies 74 = .ok (.ifCond .le 33, 3) := by decide +kernel
theorem dX8_lies_77 : decode cX8_lies 77 = .ok (.lload_n 1, 1) := by decide +kernel
theorem dX8_lies_78 : decode cX8_lies 78 = .ok (.lconst 0, 1) := by decide +kernel
theorem dX8_lies_79 : decode cX8_lies 79 = .ok (.lcmp, 1) := by decide +kernel
theorem dX8_lies_80 : decode cX8_lies 80 = .ok (.ifCond .lt 27, 3) := by decide +kernel
theorem dX8_lies_83 : decode cX8_lies 83 = .ok (.lload 5, 2) := by decide +kernel
theorem dX8_lies_85 : decode cX8_lies 85 = .ok (.lconst 0, 1) := by decide +kernel
theorem dX8_lies_86 : decode cX8_lies 86 = .ok (.lcmp, 1) := by decide +kernel
theorem dX8_lies_87 : decode cX8_lies 87 = .ok (.ifCond .ne 20, 3) := by decide +kernel
theorem dX8_lies_90 : decode cX8_lies 90 = .ok (.iload 4, 2) := by decide +kernel
theorem dX8_lies_92 : decode cX8_lies 92 = .ok (.iconst 1, 1) := by decide +kernel
theorem dX8_lies_93 : decode cX8_lies 93 = .ok (.aload_n 0, 1) := by decide +kernel
theorem dX8_lies_94 : decode cX8_lies 94 = .ok (.getfield 118, 3) := by decide +kernel
theorem dX8_lies_97 : decode cX8_lies 97 = .ok (.ishl, 1) := by decide +kernel
theorem dX8_lies_98 : decode cX8_lies 98 = .ok (.iconst 1, 1) := by decide +kernel
theorem dX8_lies_99 : decode cX8_lies 99 = .ok (.isub, 1) := by decide +kernel
theorem dX8_lies_100 : decode cX8_lies 100 = .ok (.if_icmp .ne 7, 3) := by decide +kernel
theorem dX8_lies_103 : decode cX8_lies 103 = .ok (.iconst 1, 1) := by decide +kernel
theorem dX8_lies_104 : decode cX8_lies 104 = .ok (.goto 4, 3) := by decide +kernel
theorem dX8_lies_107 : decode cX8_lies 107 = .ok (.iconst 0, 1) := by decide +kernel
theorem dX8_lies_108 : decode cX8_lies 108 = .ok (.ireturn, 1) := by decide +kernel
theorem dX8_told_0 : decode cX8_told 0 = .ok (.lconst 0, 1) := by decide +kernel
theorem dX8_told_1 : decode cX8_told 1 = .ok (.lstore_n 2, 1) := by decide +kernel
theorem dX8_told_2 : decode cX8_told 2 = .ok (.iconst 0, 1) := by decide +kernel
theorem dX8_told_3 : decode cX8_told 3 = .ok (.istore 4, 2) := by decide +kernel
theorem dX8_told_5 : decode cX8_told 5 = .ok (.iload 4, 2) := by decide +kernel
theorem dX8_told_7 : decode cX8_told 7 = .ok (.aload_n 0, 1) := by decide +kernel
theorem dX8_told_8 : decode cX8_told 8 = .ok (.getfield 118, 3) := by decide +kernel
theorem dX8_told_11 : decode cX8_told 11 = .ok (.if_icmp .ge 21, 3) := by decide +kernel
theorem dX8_told_14 : decode cX8_told 14 = .ok (.ldc2_w 124, 3) := by decide +kernel
theorem dX8_told_17 : decode cX8_told 17 = .ok (.lload_n 2, 1) := by decide +kernel
theorem dX8_told_18 : decode cX8_told 18 = .ok (.lmul, 1) := by decide +kernel
theorem dX8_told_19 : decode cX8_told 19 = .ok (.aload_n 1, 1) := by decide +kernel
theorem dX8_told_20 : decode cX8_told 20 = .ok (.iload 4, 2) := by decide +kernel
theorem dX8_told_22 : decode cX8_told 22 = .ok (.iaload, 1) := by decide +kernel
theorem dX8_told_23 : decode cX8_told 23 = .ok (.i2l, 1) := by decide +kernel
theorem dX8_told_24 : decode cX8_told 24 = .ok (.ladd, 1) := by decide +kernel
theorem dX8_told_25 : decode cX8_told 25 = .ok (.lstore_n 2, 1) := by decide +kernel
theorem dX8_told_26 : decode cX8_told 26 = .ok (.iinc 4 1, 3) := by decide +kernel
theorem dX8_told_29 : decode cX8_told 29 = .ok (.goto (-24), 3) := by decide +kernel
theorem dX8_told_32 : decode cX8_told 32 = .ok (.lload_n 2, 1) := by decide +kernel
theorem dX8_told_33 : decode cX8_told 33 = .ok (.lreturn, 1) := by decide +kernel
theorem dX8_laysMove_0 : decode cX8_laysMove 0 = .ok (.aload_n 0, 1) := by decide +kernel
theorem dX8_laysMove_1 : decode cX8_laysMove 1 = .ok (.getfield 7, 3) := by decide +kernel
theorem dX8_laysMove_4 : decode cX8_laysMove 4 = .ok (.bipush 11, 2) := by decide +kernel
theorem dX8_laysMove_6 : decode cX8_laysMove 6 = .ok (.bipush 10, 2) := by decide +kernel
theorem dX8_laysMove_8 : decode cX8_laysMove 8 = .ok (.iload_n 1, 1) := by decide +kernel
theorem dX8_laysMove_9 : decode cX8_laysMove 9 = .ok (.imul, 1) := by decide +kernel
theorem dX8_laysMove_10 : decode cX8_laysMove 10 = .ok (.iadd, 1) := by decide +kernel
theorem dX8_laysMove_11 : decode cX8_laysMove 11 = .ok (.aload_n 2, 1) := by decide +kernel
theorem dX8_laysMove_12 : decode cX8_laysMove 12 = .ok (.iconst 0, 1) := by decide +kernel
theorem dX8_laysMove_13 : decode cX8_laysMove 13 = .ok (.invokestatic 100, 3) := by decide +kernel
theorem dX8_laysMove_16 : decode cX8_laysMove 16 = .ok (.return_, 1) := by decide +kernel
theorem dX8_laysStep_0 : decode cX8_laysStep 0 = .ok (.aload_n 0, 1) := by decide +kernel
theorem dX8_laysStep_1 : decode cX8_laysStep 1 = .ok (.iload_n 1, 1) := by decide +kernel
theorem dX8_laysStep_2 : decode cX8_laysStep 2 = .ok (.iconst 2, 1) := by decide +kernel
theorem dX8_laysStep_3 : decode cX8_laysStep 3 = .ok (.idiv, 1) := by decide +kernel
theorem dX8_laysStep_4 : decode cX8_laysStep 4 = .ok (.aload_n 2, 1) := by decide +kernel
theorem dX8_laysStep_5 : decode cX8_laysStep 5 = .ok (.invokevirtual 126, 3) := by decide +kernel
theorem dX8_laysStep_8 : decode cX8_laysStep 8 = .ok (.iload_n 1, 1) := by decide +kernel
theorem dX8_laysStep_9 : decode cX8_laysStep 9 = .ok (.iconst 2, 1) := by decide +kernel
theorem dX8_laysStep_10 : decode cX8_laysStep 10 = .ok (.irem, 1) := by decide +kernel
theorem dX8_laysStep_11 : decode cX8_laysStep 11 = .ok (.ifCond .ne 4, 3) := by decide +kernel
theorem dX8_laysStep_14 : decode cX8_laysStep 14 = .ok (.return_, 1) := by decide +kernel
theorem dX8_laysStep_15 : decode cX8_laysStep 15 = .ok (.aload_n 2, 1) := by decide +kernel
theorem dX8_laysStep_16 : decode cX8_laysStep 16 = .ok (.iconst 0, 1) := by decide +kernel
theorem dX8_laysStep_17 : decode cX8_laysStep 17 = .ok (.aload_n 0, 1) := by decide +kernel
theorem dX8_laysStep_18 : decode cX8_laysStep 18 = .ok (.getfield 31, 3) := by decide +kernel
theorem dX8_laysStep_21 : decode cX8_laysStep 21 = .ok (.iconst 0, 1) := by decide +kernel
theorem dX8_laysStep_22 : decode cX8_laysStep 22 = .ok (.invokestatic 100, 3) := by decide +kernel
theorem dX8_laysStep_25 : decode cX8_laysStep 25 = .ok (.aload_n 0, 1) := by decide +kernel
theorem dX8_laysStep_26 : decode cX8_laysStep 26 = .ok (.getfield 31, 3) := by decide +kernel
theorem dX8_laysStep_29 : decode cX8_laysStep 29 = .ok (.aload_n 2, 1) := by decide +kernel
theorem dX8_laysStep_30 : decode cX8_laysStep 30 = .ok (.invokestatic 130, 3) := by decide +kernel
theorem dX8_laysStep_33 : decode cX8_laysStep 33 = .ok (.return_, 1) := by decide +kernel
theorem dX8_laysStand_0 : decode cX8_laysStand 0 = .ok (.aload_n 0, 1) := by decide +kernel
theorem dX8_laysStand_1 : decode cX8_laysStand 1 = .ok (.getfield 7, 3) := by decide +kernel
theorem dX8_laysStand_4 : decode cX8_laysStand 4 = .ok (.iconst 1, 1) := by decide +kernel
theorem dX8_laysStand_5 : decode cX8_laysStand 5 = .ok (.aload_n 1, 1) := by decide +kernel
theorem dX8_laysStand_6 : decode cX8_laysStand 6 = .ok (.iconst 0, 1) := by decide +kernel
theorem dX8_laysStand_7 : decode cX8_laysStand 7 = .ok (.invokestatic 100, 3) := by decide +kernel
theorem dX8_laysStand_10 : decode cX8_laysStand 10 = .ok (.return_, 1) := by decide +kernel
theorem dX8_clears_0 : decode cX8_clears 0 = .ok (.iconst 0, 1) := by decide +kernel
theorem dX8_clears_1 : decode cX8_clears 1 = .ok (.istore_n 2, 1) := by decide +kernel
theorem dX8_clears_2 : decode cX8_clears 2 = .ok (.iload_n 2, 1) := by decide +kernel
theorem dX8_clears_3 : decode cX8_clears 3 = .ok (.bipush 100, 2) := by decide +kernel
theorem dX8_clears_5 : decode cX8_clears 5 = .ok (.if_icmp .ge 21, 3) := by decide +kernel
theorem dX8_clears_8 : decode cX8_clears 8 = .ok (.aload_n 0, 1) := by decide +kernel
theorem dX8_clears_9 : decode cX8_clears 9 = .ok (.getfield 34, 3) := by decide +kernel
theorem dX8_clears_12 : decode cX8_clears 12 = .ok (.bipush 100, 2) := by decide +kernel
theorem dX8_clears_14 : decode cX8_clears 14 = .ok (.iload_n 1, 1) := by decide +kernel
theorem dX8_clears_15 : decode cX8_clears 15 = .ok (.imul, 1) := by decide +kernel
theorem dX8_clears_16 : decode cX8_clears 16 = .ok (.iload_n 2, 1) := by decide +kernel
theorem dX8_clears_17 : decode cX8_clears 17 = .ok (.iadd, 1) := by decide +kernel
theorem dX8_clears_18 : decode cX8_clears 18 = .ok (.iconst 0, 1) := by decide +kernel
theorem dX8_clears_19 : decode cX8_clears 19 = .ok (.bastore, 1) := by decide +kernel
theorem dX8_clears_20 : decode cX8_clears 20 = .ok (.iinc 2 1, 3) := by decide +kernel
theorem dX8_clears_23 : decode cX8_clears 23 = .ok (.goto (-21), 3) := by decide +kernel
theorem dX8_clears_26 : decode cX8_clears 26 = .ok (.iconst 0, 1) := by decide +kernel
theorem dX8_clears_27 : decode cX8_clears 27 = .ok (.istore_n 2, 1) := by decide +kernel
theorem dX8_clears_28 : decode cX8_clears 28 = .ok (.iload_n 2, 1) := by decide +kernel
theorem dX8_clears_29 : decode cX8_clears 29 = .ok (.bipush 10, 2) := by decide +kernel
theorem dX8_clears_31 : decode cX8_clears 31 = .ok (.if_icmp .ge 63, 3) := by decide +kernel
theorem dX8_clears_34 : decode cX8_clears 34 = .ok (.aload_n 0, 1) := by decide +kernel
theorem dX8_clears_35 : decode cX8_clears 35 = .ok (.getfield 34, 3) := by decide +kernel
theorem dX8_clears_38 : decode cX8_clears 38 = .ok (.bipush 100, 2) := by decide +kernel
theorem dX8_clears_40 : decode cX8_clears 40 = .ok (.iload_n 1, 1) := by decide +kernel
theorem dX8_clears_41 : decode cX8_clears 41 = .ok (.imul, 1) := by decide +kernel
theorem dX8_clears_42 : decode cX8_clears 42 = .ok (.bipush 10, 2) := by decide +kernel
theorem dX8_clears_44 : decode cX8_clears 44 = .ok (.iload_n 2, 1) := by decide +kernel
theorem dX8_clears_45 : decode cX8_clears 45 = .ok (.imul, 1) := by decide +kernel
theorem dX8_clears_46 : decode cX8_clears 46 = .ok (.iadd, 1) := by decide +kernel
theorem dX8_clears_47 : decode cX8_clears 47 = .ok (.iload_n 2, 1) := by decide +kernel
theorem dX8_clears_48 : decode cX8_clears 48 = .ok (.iadd, 1) := by decide +kernel
theorem dX8_clears_49 : decode cX8_clears 49 = .ok (.iconst 1, 1) := by decide +kernel
theorem dX8_clears_50 : decode cX8_clears 50 = .ok (.bastore, 1) := by decide +kernel
theorem dX8_clears_51 : decode cX8_clears 51 = .ok (.iconst 0, 1) := by decide +kernel
theorem dX8_clears_52 : decode cX8_clears 52 = .ok (.istore_n 3, 1) := by decide +kernel
theorem dX8_clears_53 : decode cX8_clears 53 = .ok (.iload_n 3, 1) := by decide +kernel
theorem dX8_clears_54 : decode cX8_clears 54 = .ok (.bipush 10, 2) := by decide +kernel
theorem dX8_clears_56 : decode cX8_clears 56 = .ok (.if_icmp .ge 32, 3) := by decide +kernel
theorem dX8_clears_59 : decode cX8_clears 59 = .ok (.aload_n 0, 1) := by decide +kernel
theorem dX8_clears_60 : decode cX8_clears 60 = .ok (.getfield 38, 3) := by decide +kernel
theorem dX8_clears_63 : decode cX8_clears 63 = .ok (.sipush 1000, 3) := by decide +kernel
theorem dX8_clears_66 : decode cX8_clears 66 = .ok (.iload_n 1, 1) := by decide +kernel
theorem dX8_clears_67 : decode cX8_clears 67 = .ok (.imul, 1) := by decide +kernel
theorem dX8_clears_68 : decode cX8_clears 68 = .ok (.bipush 100, 2) := by decide +kernel
theorem dX8_clears_70 : decode cX8_clears 70 = .ok (.iload_n 2, 1) := by decide +kernel
theorem dX8_clears_71 : decode cX8_clears 71 = .ok (.imul, 1) := by decide +kernel
theorem dX8_clears_72 : decode cX8_clears 72 = .ok (.iadd, 1) := by decide +kernel
theorem dX8_clears_73 : decode cX8_clears 73 = .ok (.bipush 10, 2) := by decide +kernel
theorem dX8_clears_75 : decode cX8_clears 75 = .ok (.iload_n 2, 1) := by decide +kernel
theorem dX8_clears_76 : decode cX8_clears 76 = .ok (.imul, 1) := by decide +kernel
theorem dX8_clears_77 : decode cX8_clears 77 = .ok (.iadd, 1) := by decide +kernel
theorem dX8_clears_78 : decode cX8_clears 78 = .ok (.iload_n 3, 1) := by decide +kernel
theorem dX8_clears_79 : decode cX8_clears 79 = .ok (.iadd, 1) := by decide +kernel
theorem dX8_clears_80 : decode cX8_clears 80 = .ok (.iload_n 3, 1) := by decide +kernel
theorem dX8_clears_81 : decode cX8_clears 81 = .ok (.iastore, 1) := by decide +kernel
theorem dX8_clears_82 : decode cX8_clears 82 = .ok (.iinc 3 1, 3) := by decide +kernel
theorem dX8_clears_85 : decode cX8_clears 85 = .ok (.goto (-32), 3) := by decide +kernel
theorem dX8_clears_88 : decode cX8_clears 88 = .ok (.iinc 2 1, 3) := by decide +kernel
theorem dX8_clears_91 : decode cX8_clears 91 = .ok (.goto (-63), 3) := by decide +kernel
theorem dX8_clears_94 : decode cX8_clears 94 = .ok (.return_, 1) := by decide +kernel
theorem dX8_laysCell_0 : decode cX8_laysCell 0 = .ok (.aload_n 0, 1) := by decide +kernel
theorem dX8_laysCell_1 : decode cX8_laysCell 1 = .ok (.getfield 38, 3) := by decide +kernel
theorem dX8_laysCell_4 : decode cX8_laysCell 4 = .ok (.sipush 1000, 3) := by decide +kernel
theorem dX8_laysCell_7 : decode cX8_laysCell 7 = .ok (.iload_n 1, 1) := by decide +kernel
theorem dX8_laysCell_8 : decode cX8_laysCell 8 = .ok (.imul, 1) := by decide +kernel
theorem dX8_laysCell_9 : decode cX8_laysCell 9 = .ok (.bipush 100, 2) := by decide +kernel
theorem dX8_laysCell_11 : decode cX8_laysCell 11 = .ok (.iload_n 2, 1) := by decide +kernel
theorem dX8_laysCell_12 : decode cX8_laysCell 12 = .ok (.imul, 1) := by decide +kernel
theorem dX8_laysCell_13 : decode cX8_laysCell 13 = .ok (.iadd, 1) := by decide +kernel
theorem dX8_laysCell_14 : decode cX8_laysCell 14 = .ok (.bipush 10, 2) := by decide +kernel
theorem dX8_laysCell_16 : decode cX8_laysCell 16 = .ok (.iload_n 3, 1) := by decide +kernel
theorem dX8_laysCell_17 : decode cX8_laysCell 17 = .ok (.imul, 1) := by decide +kernel
theorem dX8_laysCell_18 : decode cX8_laysCell 18 = .ok (.iadd, 1) := by decide +kernel
theorem dX8_laysCell_19 : decode cX8_laysCell 19 = .ok (.aload 4, 2) := by decide +kernel
theorem dX8_laysCell_21 : decode cX8_laysCell 21 = .ok (.iconst 0, 1) := by decide +kernel
theorem dX8_laysCell_22 : decode cX8_laysCell 22 = .ok (.invokestatic 100, 3) := by decide +kernel
theorem dX8_laysCell_25 : decode cX8_laysCell 25 = .ok (.return_, 1) := by decide +kernel
theorem dX8_sifts_0 : decode cX8_sifts 0 = .ok (.aload_n 2, 1) := by decide +kernel
theorem dX8_sifts_1 : decode cX8_sifts 1 = .ok (.iconst 0, 1) := by decide +kernel
theorem dX8_sifts_2 : decode cX8_sifts 2 = .ok (.aload_n 0, 1) := by decide +kernel
theorem dX8_sifts_3 : decode cX8_sifts 3 = .ok (.getfield 47, 3) := by decide +kernel
theorem dX8_sifts_6 : decode cX8_sifts 6 = .ok (.iconst 0, 1) := by decide +kernel
theorem dX8_sifts_7 : decode cX8_sifts 7 = .ok (.invokestatic 100, 3) := by decide +kernel
theorem dX8_sifts_10 : decode cX8_sifts 10 = .ok (.iconst 0, 1) := by decide +kernel
theorem dX8_sifts_11 : decode cX8_sifts 11 = .ok (.istore_n 3, 1) := by decide +kernel
theorem dX8_sifts_12 : decode cX8_sifts 12 = .ok (.iload_n 3, 1) := by decide +kernel
theorem dX8_sifts_13 : decode cX8_sifts 13 = .ok (.bipush 10, 2) := by decide +kernel
theorem dX8_sifts_15 : decode cX8_sifts 15 = .ok (.if_icmp .ge 99, 3) := by decide +kernel
theorem dX8_sifts_18 : decode cX8_sifts 18 = .ok (.aload_n 0, 1) := by decide +kernel
theorem dX8_sifts_19 : decode cX8_sifts 19 = .ok (.getfield 47, 3) := by decide +kernel
theorem dX8_sifts_22 : decode cX8_sifts 22 = .ok (.iload_n 3, 1) := by decide +kernel
theorem dX8_sifts_23 : decode cX8_sifts 23 = .ok (.iaload, 1) := by decide +kernel
theorem dX8_sifts_24 : decode cX8_sifts 24 = .ok (.istore 4, 2) := by decide +kernel
theorem dX8_sifts_26 : decode cX8_sifts 26 = .ok (.aload_n 0, 1) := by decide +kernel
theorem dX8_sifts_27 : decode cX8_sifts 27 = .ok (.getfield 34, 3) := by decide +kernel
theorem dX8_sifts_30 : decode cX8_sifts 30 = .ok (.bipush 100, 2) := by decide +kernel
theorem dX8_sifts_32 : decode cX8_sifts 32 = .ok (.iload_n 1, 1) := by decide +kernel
theorem dX8_sifts_33 : decode cX8_sifts 33 = .ok (.imul, 1) := by decide +kernel
theorem dX8_sifts_34 : decode cX8_sifts 34 = .ok (.bipush 10, 2) := by decide +kernel
theorem dX8_sifts_36 : decode cX8_sifts 36 = .ok (.iload_n 3, 1) := by decide +kernel
theorem dX8_sifts_37 : decode cX8_sifts 37 = .ok (.imul, 1) := by decide +kernel
theorem dX8_sifts_38 : decode cX8_sifts 38 = .ok (.iadd, 1) := by decide +kernel
theorem dX8_sifts_39 : decode cX8_sifts 39 = .ok (.iload 4, 2) := by decide +kernel
theorem dX8_sifts_41 : decode cX8_sifts 41 = .ok (.iadd, 1) := by decide +kernel
theorem dX8_sifts_42 : decode cX8_sifts 42 = .ok (.baload, 1) := by decide +kernel
theorem dX8_sifts_43 : decode cX8_sifts 43 = .ok (.ifCond .ne 5, 3) := by decide +kernel
theorem dX8_sifts_46 : decode cX8_sifts 46 = .ok (.iload_n 3, 1) := by decide +kernel
theorem dX8_sifts_47 : decode cX8_sifts 47 = .ok (.ireturn, 1) := by decide +kernel
theorem dX8_sifts_48 : decode cX8_sifts 48 = .ok (.iload 4, 2) := by decide +kernel
theorem dX8_sifts_50 : decode cX8_sifts 50 = .ok (.iload_n 3, 1) := by decide +kernel
theorem dX8_sifts_51 : decode cX8_sifts 51 = .ok (.if_icmp .ne 6, 3) := by decide +kernel
theorem dX8_sifts_54 : decode cX8_sifts 54 = .ok (.goto 54, 3) := by decide +kernel
theorem dX8_sifts_57 : decode cX8_sifts 57 = .ok (.aload_n 0, 1) := by decide +kernel
theorem dX8_sifts_58 : decode cX8_sifts 58 = .ok (.iload_n 1, 1) := by decide +kernel
theorem dX8_sifts_59 : decode cX8_sifts 59 = .ok (.iload_n 3, 1) := by decide +kernel
theorem dX8_sifts_60 : decode cX8_sifts 60 = .ok (.iload 4, 2) := by decide +kernel
theorem dX8_sifts_62 : decode cX8_sifts 62 = .ok (.aload_n 0, 1) := by decide +kernel
theorem dX8_sifts_63 : decode cX8_sifts 63 = .ok (.getfield 41, 3) := by decide +kernel
theorem dX8_sifts_66 : decode cX8_sifts 66 = .ok (.invokevirtual 134, 3) := by decide +kernel
theorem dX8_sifts_69 : decode cX8_sifts 69 = .ok (.aload_n 0, 1) := by decide +kernel
theorem dX8_sifts_70 : decode cX8_sifts 70 = .ok (.getfield 41, 3) := by decide +kernel
theorem dX8_sifts_73 : decode cX8_sifts 73 = .ok (.aload_n 0, 1) := by decide +kernel
theorem dX8_sifts_74 : decode cX8_sifts 74 = .ok (.getfield 44, 3) := by decide +kernel
theorem dX8_sifts_77 : decode cX8_sifts 77 = .ok (.invokestatic 130, 3) := by decide +kernel
theorem dX8_sifts_80 : decode cX8_sifts 80 = .ok (.aload_n 0, 1) := by decide +kernel
theorem dX8_sifts_81 : decode cX8_sifts 81 = .ok (.getfield 47, 3) := by decide +kernel
theorem dX8_sifts_84 : decode cX8_sifts 84 = .ok (.iconst 0, 1) := by decide +kernel
theorem dX8_sifts_85 : decode cX8_sifts 85 = .ok (.aload_n 0, 1) := by decide +kernel
theorem dX8_sifts_86 : decode cX8_sifts 86 = .ok (.getfield 41, 3) := by decide +kernel
theorem dX8_sifts_89 : decode cX8_sifts 89 = .ok (.iconst 0, 1) := by decide +kernel
theorem dX8_sifts_90 : decode cX8_sifts 90 = .ok (.invokestatic 100, 3) := by decide +kernel
theorem dX8_sifts_93 : decode cX8_sifts 93 = .ok (.aload_n 0, 1) := by decide +kernel
theorem dX8_sifts_94 : decode cX8_sifts 94 = .ok (.getfield 41, 3) := by decide +kernel
theorem dX8_sifts_97 : decode cX8_sifts 97 = .ok (.aload_n 0, 1) := by decide +kernel
theorem dX8_sifts_98 : decode cX8_sifts 98 = .ok (.getfield 44, 3) := by decide +kernel
theorem dX8_sifts_101 : decode cX8_sifts 101 = .ok (.aload_n 0, 1) := by decide +kernel
theorem dX8_sifts_102 : decode cX8_sifts 102 = .ok (.getfield 47, 3) := by decide +kernel
theorem dX8_sifts_105 : decode cX8_sifts 105 = .ok (.invokestatic 138, 3) := by decide +kernel
theorem dX8_sifts_108 : decode cX8_sifts 108 = .ok (.iinc 3 1, 3) := by decide +kernel
theorem dX8_sifts_111 : decode cX8_sifts 111 = .ok (.goto (-99), 3) := by decide +kernel
theorem dX8_sifts_114 : decode cX8_sifts 114 = .ok (.bipush 10, 2) := by decide +kernel
theorem dX8_sifts_116 : decode cX8_sifts 116 = .ok (.ireturn, 1) := by decide +kernel
theorem dX8_isMember_0 : decode cX8_isMember 0 = .ok (.aload_n 0, 1) := by decide +kernel
theorem dX8_isMember_1 : decode cX8_isMember 1 = .ok (.iload_n 1, 1) := by decide +kernel
theorem dX8_isMember_2 : decode cX8_isMember 2 = .ok (.aload_n 2, 1) := by decide +kernel
theorem dX8_isMember_3 : decode cX8_isMember 3 = .ok (.invokevirtual 142, 3) := by decide +kernel
theorem dX8_isMember_6 : decode cX8_isMember 6 = .ok (.bipush 10, 2) := by decide +kernel
theorem dX8_isMember_8 : decode cX8_isMember 8 = .ok (.if_icmp .ne 7, 3) := by decide +kernel
theorem dX8_isMember_11 : decode cX8_isMember 11 = .ok (.iconst 1, 1) := by decide +kernel
theorem dX8_isMember_12 : decode cX8_isMember 12 = .ok (.goto 4, 3) := by decide +kernel
theorem dX8_isMember_15 : decode cX8_isMember 15 = .ok (.iconst 0, 1) := by decide +kernel
theorem dX8_isMember_16 : decode cX8_isMember 16 = .ok (.ireturn, 1) := by decide +kernel
theorem dX8_comesTo_0 : decode cX8_comesTo 0 = .ok (.aload_n 0, 1) := by decide +kernel
theorem dX8_comesTo_1 : decode cX8_comesTo 1 = .ok (.iload_n 1, 1) := by decide +kernel
theorem dX8_comesTo_2 : decode cX8_comesTo 2 = .ok (.aload_n 2, 1) := by decide +kernel
theorem dX8_comesTo_3 : decode cX8_comesTo 3 = .ok (.invokevirtual 142, 3) := by decide +kernel
theorem dX8_comesTo_6 : decode cX8_comesTo 6 = .ok (.istore_n 3, 1) := by decide +kernel
theorem dX8_comesTo_7 : decode cX8_comesTo 7 = .ok (.iload_n 3, 1) := by decide +kernel
theorem dX8_comesTo_8 : decode cX8_comesTo 8 = .ok (.bipush 10, 2) := by decide +kernel
theorem dX8_comesTo_10 : decode cX8_comesTo 10 = .ok (.if_icmp .ne 5, 3) := by decide +kernel
theorem dX8_comesTo_13 : decode cX8_comesTo 13 = .ok (.iconst 0, 1) := by decide +kernel
theorem dX8_comesTo_14 : decode cX8_comesTo 14 = .ok (.ireturn, 1) := by decide +kernel
theorem dX8_comesTo_15 : decode cX8_comesTo 15 = .ok (.aload_n 0, 1) := by decide +kernel
theorem dX8_comesTo_16 : decode cX8_comesTo 16 = .ok (.getfield 34, 3) := by decide +kernel
theorem dX8_comesTo_19 : decode cX8_comesTo 19 = .ok (.bipush 100, 2) := by decide +kernel
theorem dX8_comesTo_21 : decode cX8_comesTo 21 = .ok (.iload_n 1, 1) := by decide +kernel
theorem dX8_comesTo_22 : decode cX8_comesTo 22 = .ok (.imul, 1) := by decide +kernel
theorem dX8_comesTo_23 : decode cX8_comesTo 23 = .ok (.bipush 10, 2) := by decide +kernel
theorem dX8_comesTo_25 : decode cX8_comesTo 25 = .ok (.iload_n 3, 1) := by decide +kernel
theorem dX8_comesTo_26 : decode cX8_comesTo 26 = .ok (.imul, 1) := by decide +kernel
theorem dX8_comesTo_27 : decode cX8_comesTo 27 = .ok (.iadd, 1) := by decide +kernel
theorem dX8_comesTo_28 : decode cX8_comesTo 28 = .ok (.aload_n 0, 1) := by decide +kernel
theorem dX8_comesTo_29 : decode cX8_comesTo 29 = .ok (.getfield 47, 3) := by decide +kernel
theorem dX8_comesTo_32 : decode cX8_comesTo 32 = .ok (.iload_n 3, 1) := by decide +kernel
theorem dX8_comesTo_33 : decode cX8_comesTo 33 = .ok (.iaload, 1) := by decide +kernel
theorem dX8_comesTo_34 : decode cX8_comesTo 34 = .ok (.iadd, 1) := by decide +kernel
theorem dX8_comesTo_35 : decode cX8_comesTo 35 = .ok (.iconst 1, 1) := by decide +kernel
theorem dX8_comesTo_36 : decode cX8_comesTo 36 = .ok (.bastore, 1) := by decide +kernel
theorem dX8_comesTo_37 : decode cX8_comesTo 37 = .ok (.aload_n 0, 1) := by decide +kernel
theorem dX8_comesTo_38 : decode cX8_comesTo 38 = .ok (.getfield 47, 3) := by decide +kernel
theorem dX8_comesTo_41 : decode cX8_comesTo 41 = .ok (.iconst 0, 1) := by decide +kernel
theorem dX8_comesTo_42 : decode cX8_comesTo 42 = .ok (.aload_n 0, 1) := by decide +kernel
theorem dX8_comesTo_43 : decode cX8_comesTo 43 = .ok (.getfield 38, 3) := by decide +kernel
theorem dX8_comesTo_46 : decode cX8_comesTo 46 = .ok (.sipush 1000, 3) := by decide +kernel
theorem dX8_comesTo_49 : decode cX8_comesTo 49 = .ok (.iload_n 1, 1) := by decide +kernel
theorem dX8_comesTo_50 : decode cX8_comesTo 50 = .ok (.imul, 1) := by decide +kernel
theorem dX8_comesTo_51 : decode cX8_comesTo 51 = .ok (.bipush 100, 2) := by decide +kernel
theorem dX8_comesTo_53 : decode cX8_comesTo 53 = .ok (.iload_n 3, 1) := by decide +kernel
theorem dX8_comesTo_54 : decode cX8_comesTo 54 = .ok (.imul, 1) := by decide +kernel
theorem dX8_comesTo_55 : decode cX8_comesTo 55 = .ok (.iadd, 1) := by decide +kernel
theorem dX8_comesTo_56 : decode cX8_comesTo 56 = .ok (.bipush 10, 2) := by decide +kernel
theorem dX8_comesTo_58 : decode cX8_comesTo 58 = .ok (.aload_n 0, 1) := by decide +kernel
theorem dX8_comesTo_59 : decode cX8_comesTo 59 = .ok (.getfield 47, 3) := by decide +kernel
theorem dX8_comesTo_62 : decode cX8_comesTo 62 = .ok (.iload_n 3, 1) := by decide +kernel
theorem dX8_comesTo_63 : decode cX8_comesTo 63 = .ok (.iaload, 1) := by decide +kernel
theorem dX8_comesTo_64 : decode cX8_comesTo 64 = .ok (.imul, 1) := by decide +kernel
theorem dX8_comesTo_65 : decode cX8_comesTo 65 = .ok (.iadd, 1) := by decide +kernel
theorem dX8_comesTo_66 : decode cX8_comesTo 66 = .ok (.invokestatic 100, 3) := by decide +kernel
theorem dX8_comesTo_69 : decode cX8_comesTo 69 = .ok (.iconst 1, 1) := by decide +kernel
theorem dX8_comesTo_70 : decode cX8_comesTo 70 = .ok (.ireturn, 1) := by decide +kernel
theorem dX8_closes_0 : decode cX8_closes 0 = .ok (.iconst 1, 1) := by decide +kernel
theorem dX8_closes_1 : decode cX8_closes 1 = .ok (.istore_n 2, 1) := by decide +kernel
theorem dX8_closes_2 : decode cX8_closes 2 = .ok (.iload_n 2, 1) := by decide +kernel
theorem dX8_closes_3 : decode cX8_closes 3 = .ok (.ifCond .eq 160, 3) := by decide +kernel
theorem dX8_closes_6 : decode cX8_closes 6 = .ok (.iconst 0, 1) := by decide +kernel
theorem dX8_closes_7 : decode cX8_closes 7 = .ok (.istore_n 2, 1) := by decide +kernel
theorem dX8_closes_8 : decode cX8_closes 8 = .ok (.iconst 0, 1) := by decide +kernel
theorem dX8_closes_9 : decode cX8_closes 9 = .ok (.istore_n 3, 1) := by decide +kernel
theorem dX8_closes_10 : decode cX8_closes 10 = .ok (.iload_n 3, 1) := by decide +kernel
theorem dX8_closes_11 : decode cX8_closes 11 = .ok (.bipush 100, 2) := by decide +kernel
theorem dX8_closes_13 : decode cX8_closes 13 = .ok (.if_icmp .ge 147, 3) := by decide +kernel
theorem dX8_closes_16 : decode cX8_closes 16 = .ok (.aload_n 0, 1) := by decide +kernel
theorem dX8_closes_17 : decode cX8_closes 17 = .ok (.getfield 34, 3) := by decide +kernel
theorem dX8_closes_20 : decode cX8_closes 20 = .ok (.bipush 100, 2) := by decide +kernel
theorem dX8_closes_22 : decode cX8_closes 22 = .ok (.iload_n 1, 1) := by decide +kernel
theorem dX8_closes_23 : decode cX8_closes 23 = .ok (.imul, 1) := by decide +kernel
theorem dX8_closes_24 : decode cX8_closes 24 = .ok (.iload_n 3, 1) := by decide +kernel
theorem dX8_closes_25 : decode cX8_closes 25 = .ok (.iadd, 1) := by decide +kernel
theorem dX8_closes_26 : decode cX8_closes 26 = .ok (.baload, 1) := by decide +kernel
theorem dX8_closes_27 : decode cX8_closes 27 = .ok (.ifCond .eq 127, 3) := by decide +kernel
theorem dX8_closes_30 : decode cX8_closes 30 = .ok (.iload_n 3, 1) := by decide +kernel
theorem dX8_closes_31 : decode cX8_closes 31 = .ok (.bipush 10, 2) := by decide +kernel
theorem dX8_closes_33 : decode cX8_closes 33 = .ok (.idiv, 1) := by decide +kernel
theorem dX8_closes_34 : decode cX8_closes 34 = .ok (.iload_n 3, 1) := by decide +kernel
theorem dX8_closes_35 : decode cX8_closes 35 = .ok (.bipush 10, 2) := by decide +kernel
theorem dX8_closes_37 : decode cX8_closes 37 = .ok (.irem, 1) := by decide +kernel
theorem dX8_closes_38 : decode cX8_closes 38 = .ok (.if_icmp .ne 6, 3) := by decide +kernel
theorem dX8_closes_41 : decode cX8_closes 41 = .ok (.goto 113, 3) := by decide +kernel
theorem dX8_closes_44 : decode cX8_closes 44 = .ok (.iconst 0, 1) := by decide +kernel
theorem dX8_closes_45 : decode cX8_closes 45 = .ok (.istore 4, 2) := by decide +kernel
theorem dX8_closes_47 : decode cX8_closes 47 = .ok (.iload 4, 2) := by decide +kernel
theorem dX8_closes_49 : decode cX8_closes 49 = .ok (.bipush 100, 2) := by decide +kernel
theorem dX8_closes_51 : decode cX8_closes 51 = .ok (.if_icmp .ge 103, 3) := by decide +kernel
theorem dX8_closes_54 : decode cX8_closes 54 = .ok (.aload_n 0, 1) := by decide +kernel
theorem dX8_closes_55 : decode cX8_closes 55 = .ok (.getfield 34, 3) := by decide +kernel
theorem dX8_closes_58 : decode cX8_closes 58 = .ok (.bipush 100, 2) := by decide +kernel
theorem dX8_closes_60 : decode cX8_closes 60 = .ok (.iload_n 1, 1) := by decide +kernel
theorem dX8_closes_61 : decode cX8_closes 61 = .ok (.imul, 1) := by decide +kernel
theorem dX8_closes_62 : decode cX8_closes 62 = .ok (.iload 4, 2) := by decide +kernel
theorem dX8_closes_64 : decode cX8_closes 64 = .ok (.iadd, 1) := by decide +kernel
theorem dX8_closes_65 : decode cX8_closes 65 = .ok (.baload, 1) := by decide +kernel
theorem dX8_closes_66 : decode cX8_closes 66 = .ok (.ifCond .eq 82, 3) := by decide +kernel
theorem dX8_closes_69 : decode cX8_closes 69 = .ok (.iload 4, 2) := by decide +kernel
theorem dX8_closes_71 : decode cX8_closes 71 = .ok (.bipush 10, 2) := by decide +kernel
theorem dX8_closes_73 : decode cX8_closes 73 = .ok (.idiv, 1) := by decide +kernel
theorem dX8_closes_74 : decode cX8_closes 74 = .ok (.iload 4, 2) := by decide +kernel
theorem dX8_closes_76 : decode cX8_closes 76 = .ok (.bipush 10, 2) := by decide +kernel
theorem dX8_closes_78 : decode cX8_closes 78 = .ok (.irem, 1) := by decide +kernel
theorem dX8_closes_79 : decode cX8_closes 79 = .ok (.if_icmp .ne 6, 3) := by decide +kernel
theorem dX8_closes_82 : decode cX8_closes 82 = .ok (.goto 66, 3) := by decide +kernel
theorem dX8_closes_85 : decode cX8_closes 85 = .ok (.aload_n 0, 1) := by decide +kernel
theorem dX8_closes_86 : decode cX8_closes 86 = .ok (.iload_n 1, 1) := by decide +kernel
theorem dX8_closes_87 : decode cX8_closes 87 = .ok (.iload_n 3, 1) := by decide +kernel
theorem dX8_closes_88 : decode cX8_closes 88 = .ok (.bipush 10, 2) := by decide +kernel
theorem dX8_closes_90 : decode cX8_closes 90 = .ok (.idiv, 1) := by decide +kernel
theorem dX8_closes_91 : decode cX8_closes 91 = .ok (.iload_n 3, 1) := by decide +kernel
theorem dX8_closes_92 : decode cX8_closes 92 = .ok (.bipush 10, 2) := by decide +kernel
theorem dX8_closes_94 : decode cX8_closes 94 = .ok (.irem, 1) := by decide +kernel
theorem dX8_closes_95 : decode cX8_closes 95 = .ok (.aload_n 0, 1) := by decide +kernel
theorem dX8_closes_96 : decode cX8_closes 96 = .ok (.getfield 50, 3) := by decide +kernel
theorem dX8_closes_99 : decode cX8_closes 99 = .ok (.invokevirtual 134, 3) := by decide +kernel
theorem dX8_closes_102 : decode cX8_closes 102 = .ok (.aload_n 0, 1) := by decide +kernel
theorem dX8_closes_103 : decode cX8_closes 103 = .ok (.iload_n 1, 1) := by decide +kernel
theorem dX8_closes_104 : decode cX8_closes 104 = .ok (.iload 4, 2) := by decide +kernel
theorem dX8_closes_106 : decode cX8_closes 106 = .ok (.bipush 10, 2) := by decide +kernel
theorem dX8_closes_108 : decode cX8_closes 108 = .ok (.idiv, 1) := by decide +kernel
theorem dX8_closes_109 : decode cX8_closes 109 = .ok (.iload 4, 2) := by decide +kernel
theorem dX8_closes_111 : decode cX8_closes 111 = .ok (.bipush 10, 2) := by decide +kernel
theorem dX8_closes_113 : decode cX8_closes 113 = .ok (.irem, 1) := by decide +kernel
theorem dX8_closes_114 : decode cX8_closes 114 = .ok (.aload_n 0, 1) := by decide +kernel
theorem dX8_closes_115 : decode cX8_closes 115 = .ok (.getfield 53, 3) := by decide +kernel
theorem dX8_closes_118 : decode cX8_closes 118 = .ok (.invokevirtual 134, 3) := by decide +kernel
theorem dX8_closes_121 : decode cX8_closes 121 = .ok (.aload_n 0, 1) := by decide +kernel
theorem dX8_closes_122 : decode cX8_closes 122 = .ok (.getfield 50, 3) := by decide +kernel
theorem dX8_closes_125 : decode cX8_closes 125 = .ok (.aload_n 0, 1) := by decide +kernel
theorem dX8_closes_126 : decode cX8_closes 126 = .ok (.getfield 53, 3) := by decide +kernel
theorem dX8_closes_129 : decode cX8_closes 129 = .ok (.aload_n 0, 1) := by decide +kernel
theorem dX8_closes_130 : decode cX8_closes 130 = .ok (.getfield 56, 3) := by decide +kernel
theorem dX8_closes_133 : decode cX8_closes 133 = .ok (.invokestatic 138, 3) := by decide +kernel
theorem dX8_closes_136 : decode cX8_closes 136 = .ok (.iload_n 2, 1) := by decide +kernel
theorem dX8_closes_137 : decode cX8_closes 137 = .ok (.aload_n 0, 1) := by decide +kernel
theorem dX8_closes_138 : decode cX8_closes 138 = .ok (.iload_n 1, 1) := by decide +kernel
theorem dX8_closes_139 : decode cX8_closes 139 = .ok (.aload_n 0, 1) := by decide +kernel
theorem dX8_closes_140 : decode cX8_closes 140 = .ok (.getfield 56, 3) := by decide +kernel
theorem dX8_closes_143 : decode cX8_closes 143 = .ok (.invokevirtual 146, 3) := by decide +kernel
theorem dX8_closes_146 : decode cX8_closes 146 = .ok (.ior, 1) := by decide +kernel
theorem dX8_closes_147 : decode cX8_closes 147 = .ok (.istore_n 2, 1) := by decide +kernel
theorem dX8_closes_148 : decode cX8_closes 148 = .ok (.iinc 4 1, 3) := by decide +kernel
theorem dX8_closes_151 : decode cX8_closes 151 = .ok (.goto (-104), 3) := by decide +kernel
theorem dX8_closes_154 : decode cX8_closes 154 = .ok (.iinc 3 1, 3) := by decide +kernel
theorem dX8_closes_157 : decode cX8_closes 157 = .ok (.goto (-147), 3) := by decide +kernel
theorem dX8_closes_160 : decode cX8_closes 160 = .ok (.goto (-158), 3) := by decide +kernel
theorem dX8_closes_163 : decode cX8_closes 163 = .ok (.return_, 1) := by decide +kernel
theorem dX8_adds_0 : decode cX8_adds 0 = .ok (.aload_n 0, 1) := by decide +kernel
theorem dX8_adds_1 : decode cX8_adds 1 = .ok (.iload_n 1, 1) := by decide +kernel
theorem dX8_adds_2 : decode cX8_adds 2 = .ok (.aload_n 2, 1) := by decide +kernel
theorem dX8_adds_3 : decode cX8_adds 3 = .ok (.invokevirtual 146, 3) := by decide +kernel
theorem dX8_adds_6 : decode cX8_adds 6 = .ok (.ifCond .eq 8, 3) := by decide +kernel
theorem dX8_adds_9 : decode cX8_adds 9 = .ok (.aload_n 0, 1) := by decide +kernel
theorem dX8_adds_10 : decode cX8_adds 10 = .ok (.iload_n 1, 1) := by decide +kernel
theorem dX8_adds_11 : decode cX8_adds 11 = .ok (.invokevirtual 150, 3) := by decide +kernel
theorem dX8_adds_14 : decode cX8_adds 14 = .ok (.return_, 1) := by decide +kernel
theorem dX8_builds_0 : decode cX8_builds 0 = .ok (.aload_n 0, 1) := by decide +kernel
theorem dX8_builds_1 : decode cX8_builds 1 = .ok (.iload_n 1, 1) := by decide +kernel
theorem dX8_builds_2 : decode cX8_builds 2 = .ok (.invokevirtual 154, 3) := by decide +kernel
theorem dX8_builds_5 : decode cX8_builds 5 = .ok (.iconst 0, 1) := by decide +kernel
theorem dX8_builds_6 : decode cX8_builds 6 = .ok (.istore_n 3, 1) := by decide +kernel
theorem dX8_builds_7 : decode cX8_builds 7 = .ok (.iload_n 3, 1) := by decide +kernel
theorem dX8_builds_8 : decode cX8_builds 8 = .ok (.aload_n 0, 1) := by decide +kernel
theorem dX8_builds_9 : decode cX8_builds 9 = .ok (.invokevirtual 110, 3) := by decide +kernel
theorem dX8_builds_12 : decode cX8_builds 12 = .ok (.if_icmp .ge 38, 3) := by decide +kernel
theorem dX8_builds_15 : decode cX8_builds 15 = .ok (.iload_n 2, 1) := by decide +kernel
theorem dX8_builds_16 : decode cX8_builds 16 = .ok (.iload_n 3, 1) := by decide +kernel
theorem dX8_builds_17 : decode cX8_builds 17 = .ok (.invokestatic 157, 3) := by decide +kernel
theorem dX8_builds_20 : decode cX8_builds 20 = .ok (.ifCond .ne 6, 3) := by decide +kernel
theorem dX8_builds_23 : decode cX8_builds 23 = .ok (.goto 21, 3) := by decide +kernel
theorem dX8_builds_26 : decode cX8_builds 26 = .ok (.aload_n 0, 1) := by decide +kernel
theorem dX8_builds_27 : decode cX8_builds 27 = .ok (.iload_n 3, 1) := by decide +kernel
theorem dX8_builds_28 : decode cX8_builds 28 = .ok (.aload_n 0, 1) := by decide +kernel
theorem dX8_builds_29 : decode cX8_builds 29 = .ok (.getfield 22, 3) := by decide +kernel
theorem dX8_builds_32 : decode cX8_builds 32 = .ok (.invokevirtual 126, 3) := by decide +kernel
theorem dX8_builds_35 : decode cX8_builds 35 = .ok (.aload_n 0, 1) := by decide +kernel
theorem dX8_builds_36 : decode cX8_builds 36 = .ok (.iload_n 1, 1) := by decide +kernel
theorem dX8_builds_37 : decode cX8_builds 37 = .ok (.aload_n 0, 1) := by decide +kernel
theorem dX8_builds_38 : decode cX8_builds 38 = .ok (.getfield 22, 3) := by decide +kernel
theorem dX8_builds_41 : decode cX8_builds 41 = .ok (.invokevirtual 161, 3) := by decide +kernel
theorem dX8_builds_44 : decode cX8_builds 44 = .ok (.iinc 3 1, 3) := by decide +kernel
theorem dX8_builds_47 : decode cX8_builds 47 = .ok (.goto (-40), 3) := by decide +kernel
theorem dX8_builds_50 : decode cX8_builds 50 = .ok (.return_, 1) := by decide +kernel
theorem dX8_widthAt_0 : decode cX8_widthAt 0 = .ok (.iconst 0, 1) := by decide +kernel
theorem dX8_widthAt_1 : decode cX8_widthAt 1 = .ok (.istore_n 3, 1) := by decide +kernel
theorem dX8_widthAt_2 : decode cX8_widthAt 2 = .ok (.iconst 0, 1) := by decide +kernel
theorem dX8_widthAt_3 : decode cX8_widthAt 3 = .ok (.istore 4, 2) := by decide +kernel
theorem dX8_widthAt_5 : decode cX8_widthAt 5 = .ok (.iload 4, 2) := by decide +kernel
theorem dX8_widthAt_7 : decode cX8_widthAt 7 = .ok (.bipush 10, 2) := by decide +kernel
theorem dX8_widthAt_9 : decode cX8_widthAt 9 = .ok (.if_icmp .ge 37, 3) := by decide +kernel
theorem dX8_widthAt_12 : decode cX8_widthAt 12 = .ok (.iload_n 3, 1) := by decide +kernel
theorem dX8_widthAt_13 : decode cX8_widthAt 13 = .ok (.aload_n 0, 1) := by decide +kernel
theorem dX8_widthAt_14 : decode cX8_widthAt 14 = .ok (.getfield 34, 3) := by decide +kernel
theorem dX8_widthAt_17 : decode cX8_widthAt 17 = .ok (.bipush 100, 2) := by decide +kernel
theorem dX8_widthAt_19 : decode cX8_widthAt 19 = .ok (.iload_n 1, 1) := by decide +kernel
theorem dX8_widthAt_20 : decode cX8_widthAt 20 = .ok (.imul, 1) := by decide +kernel
theorem dX8_widthAt_21 : decode cX8_widthAt 21 = .ok (.bipush 10, 2) := by decide +kernel
theorem dX8_widthAt_23 : decode cX8_widthAt 23 = .ok (.iload_n 2, 1) := by decide +kernel
theorem dX8_widthAt_24 : decode cX8_widthAt 24 = .ok (.imul, 1) := by decide +kernel
theorem dX8_widthAt_25 : decode cX8_widthAt 25 = .ok (.iadd, 1) := by decide +kernel
theorem dX8_widthAt_26 : decode cX8_widthAt 26 = .ok (.iload 4, 2) := by decide +kernel
theorem dX8_widthAt_28 : decode cX8_widthAt 28 = .ok (.iadd, 1) := by decide +kernel
theorem dX8_widthAt_29 : decode cX8_widthAt 29 = .ok (.baload, 1) := by decide +kernel
theorem dX8_widthAt_30 : decode cX8_widthAt 30 = .ok (.ifCond .eq 7, 3) := by decide +kernel
theorem dX8_widthAt_33 : decode cX8_widthAt 33 = .ok (.iconst 1, 1) := by decide +kernel
theorem dX8_widthAt_34 : decode cX8_widthAt 34 = .ok (.goto 4, 3) := by decide +kernel
theorem dX8_widthAt_37 : decode cX8_widthAt 37 = .ok (.iconst 0, 1) := by decide +kernel
theorem dX8_widthAt_38 : decode cX8_widthAt 38 = .ok (.iadd, 1) := by decide +kernel
theorem dX8_widthAt_39 : decode cX8_widthAt 39 = .ok (.istore_n 3, 1) := by decide +kernel
theorem dX8_widthAt_40 : decode cX8_widthAt 40 = .ok (.iinc 4 1, 3) := by decide +kernel
theorem dX8_widthAt_43 : decode cX8_widthAt 43 = .ok (.goto (-38), 3) := by decide +kernel
theorem dX8_widthAt_46 : decode cX8_widthAt 46 = .ok (.iload_n 3, 1) := by decide +kernel
theorem dX8_widthAt_47 : decode cX8_widthAt 47 = .ok (.ireturn, 1) := by decide +kernel
theorem dX8_orderFrom_0 : decode cX8_orderFrom 0 = .ok (.iconst 1, 1) := by decide +kernel
theorem dX8_orderFrom_1 : decode cX8_orderFrom 1 = .ok (.istore_n 3, 1) := by decide +kernel
theorem dX8_orderFrom_2 : decode cX8_orderFrom 2 = .ok (.iload_n 2, 1) := by decide +kernel
theorem dX8_orderFrom_3 : decode cX8_orderFrom 3 = .ok (.istore 4, 2) := by decide +kernel
theorem dX8_orderFrom_5 : decode cX8_orderFrom 5 = .ok (.iload 4, 2) := by decide +kernel
theorem dX8_orderFrom_7 : decode cX8_orderFrom 7 = .ok (.bipush 10, 2) := by decide +kernel
theorem dX8_orderFrom_9 : decode cX8_orderFrom 9 = .ok (.if_icmp .ge 19, 3) := by decide +kernel
theorem dX8_orderFrom_12 : decode cX8_orderFrom 12 = .ok (.iload_n 3, 1) := by decide +kernel
theorem dX8_orderFrom_13 : decode cX8_orderFrom 13 = .ok (.aload_n 0, 1) := by decide +kernel
theorem dX8_orderFrom_14 : decode cX8_orderFrom 14 = .ok (.iload_n 1, 1) := by decide +kernel
theorem dX8_orderFrom_15 : decode cX8_orderFrom 15 = .ok (.iload 4, 2) := by decide +kernel
theorem dX8_orderFrom_17 : decode cX8_orderFrom 17 = .ok (.invokevirtual 164, 3) := by decide +kernel
theorem dX8_orderFrom_20 : decode cX8_orderFrom 20 = .ok (.imul, 1) := by decide +kernel
theorem dX8_orderFrom_21 : decode cX8_orderFrom 21 = .ok (.istore_n 3, 1) := by decide +kernel
theorem dX8_orderFrom_22 : decode cX8_orderFrom 22 = .ok (.iinc 4 1, 3) := by decide +kernel
theorem dX8_orderFrom_25 : decode cX8_orderFrom 25 = .ok (.goto (-20), 3) := by decide +kernel
theorem dX8_orderFrom_28 : decode cX8_orderFrom 28 = .ok (.iload_n 3, 1) := by decide +kernel
theorem dX8_orderFrom_29 : decode cX8_orderFrom 29 = .ok (.ireturn, 1) := by decide +kernel
theorem dX8_orderOf_0 : decode cX8_orderOf 0 = .ok (.aload_n 0, 1) := by decide +kernel
theorem dX8_orderOf_1 : decode cX8_orderOf 1 = .ok (.iload_n 1, 1) := by decide +kernel
theorem dX8_orderOf_2 : decode cX8_orderOf 2 = .ok (.iconst 0, 1) := by decide +kernel
theorem dX8_orderOf_3 : decode cX8_orderOf 3 = .ok (.invokevirtual 168, 3) := by decide +kernel
theorem dX8_orderOf_6 : decode cX8_orderOf 6 = .ok (.ireturn, 1) := by decide +kernel
theorem dX8_builds__0 : decode cX8_builds_ 0 = .ok (.aload_n 0, 1) := by decide +kernel
theorem dX8_builds__1 : decode cX8_builds_ 1 = .ok (.getfield 171, 3) := by decide +kernel
theorem dX8_builds__4 : decode cX8_builds_ 4 = .ok (.ifCond .ne 16, 3) := by decide +kernel
theorem dX8_builds__7 : decode cX8_builds_ 7 = .ok (.aload_n 0, 1) := by decide +kernel
theorem dX8_builds__8 : decode cX8_builds_ 8 = .ok (.iconst 0, 1) := by decide +kernel
theorem dX8_builds__9 : decode cX8_builds_ 9 = .ok (.iconst 1, 1) := by decide +kernel
theorem dX8_builds__10 : decode cX8_builds_ 10 = .ok (.aload_n 0, 1) := by decide +kernel
theorem dX8_builds__11 : decode cX8_builds_ 11 = .ok (.invokevirtual 110, 3) := by decide +kernel
theorem dX8_builds__14 : decode cX8_builds_ 14 = .ok (.ishl, 1) := by decide +kernel
theorem dX8_builds__15 : decode cX8_builds_ 15 = .ok (.iconst 1, 1) := by decide +kernel
theorem dX8_builds__16 : decode cX8_builds_ 16 = .ok (.isub, 1) := by decide +kernel
theorem dX8_builds__17 : decode cX8_builds_ 17 = .ok (.invokevirtual 175, 3) := by decide +kernel
theorem dX8_builds__20 : decode cX8_builds_ 20 = .ok (.aload_n 0, 1) := by decide +kernel
theorem dX8_builds__21 : decode cX8_builds_ 21 = .ok (.iconst 1, 1) := by decide +kernel
theorem dX8_builds__22 : decode cX8_builds_ 22 = .ok (.putfield 171, 3) := by decide +kernel
theorem dX8_builds__25 : decode cX8_builds_ 25 = .ok (.return_, 1) := by decide +kernel
theorem dX8_orderNow_0 : decode cX8_orderNow 0 = .ok (.aload_n 0, 1) := by decide +kernel
theorem dX8_orderNow_1 : decode cX8_orderNow 1 = .ok (.invokevirtual 179, 3) := by decide +kernel
theorem dX8_orderNow_4 : decode cX8_orderNow 4 = .ok (.aload_n 0, 1) := by decide +kernel
theorem dX8_orderNow_5 : decode cX8_orderNow 5 = .ok (.iconst 0, 1) := by decide +kernel
theorem dX8_orderNow_6 : decode cX8_orderNow 6 = .ok (.invokevirtual 181, 3) := by decide +kernel
theorem dX8_orderNow_9 : decode cX8_orderNow 9 = .ok (.ireturn, 1) := by decide +kernel
theorem dX8_isSmall_0 : decode cX8_isSmall 0 = .ok (.aload_n 0, 1) := by decide +kernel
theorem dX8_isSmall_1 : decode cX8_isSmall 1 = .ok (.invokevirtual 185, 3) := by decide +kernel
theorem dX8_isSmall_4 : decode cX8_isSmall 4 = .ok (.sipush 5040, 3) := by decide +kernel
theorem dX8_isSmall_7 : decode cX8_isSmall 7 = .ok (.if_icmp .gt 7, 3) := by decide +kernel
theorem dX8_isSmall_10 : decode cX8_isSmall 10 = .ok (.iconst 1, 1) := by decide +kernel
theorem dX8_isSmall_11 : decode cX8_isSmall 11 = .ok (.goto 4, 3) := by decide +kernel
theorem dX8_isSmall_14 : decode cX8_isSmall 14 = .ok (.iconst 0, 1) := by decide +kernel
theorem dX8_isSmall_15 : decode cX8_isSmall 15 = .ok (.ireturn, 1) := by decide +kernel
theorem dX8_whySmall_0 : decode cX8_whySmall 0 = .ok (.iload_n 1, 1) := by decide +kernel
theorem dX8_whySmall_1 : decode cX8_whySmall 1 = .ok (.ifCond .eq 7, 3) := by decide +kernel
theorem dX8_whySmall_4 : decode cX8_whySmall 4 = .ok (.iload_n 1, 1) := by decide +kernel
theorem dX8_whySmall_5 : decode cX8_whySmall 5 = .ok (.goto 26, 3) := by decide +kernel
theorem dX8_whySmall_8 : decode cX8_whySmall 8 = .ok (.aload_n 0, 1) := by decide +kernel
theorem dX8_whySmall_9 : decode cX8_whySmall 9 = .ok (.getfield 118, 3) := by decide +kernel
theorem dX8_whySmall_12 : decode cX8_whySmall 12 = .ok (.ifCond .ne 7, 3) := by decide +kernel
theorem dX8_whySmall_15 : decode cX8_whySmall 15 = .ok (.iconst 5, 1) := by decide +kernel
theorem dX8_whySmall_16 : decode cX8_whySmall 16 = .ok (.goto 15, 3) := by decide +kernel
theorem dX8_whySmall_19 : decode cX8_whySmall 19 = .ok (.aload_n 0, 1) := by decide +kernel
theorem dX8_whySmall_20 : decode cX8_whySmall 20 = .ok (.invokevirtual 188, 3) := by decide +kernel
theorem dX8_whySmall_23 : decode cX8_whySmall 23 = .ok (.ifCond .eq 7, 3) := by decide +kernel
theorem dX8_whySmall_26 : decode cX8_whySmall 26 = .ok (.iconst 0, 1) := by decide +kernel
theorem dX8_whySmall_27 : decode cX8_whySmall 27 = .ok (.goto 4, 3) := by decide +kernel
theorem dX8_whySmall_30 : decode cX8_whySmall 30 = .ok (.iconst 3, 1) := by decide +kernel
theorem dX8_whySmall_31 : decode cX8_whySmall 31 = .ok (.ireturn, 1) := by decide +kernel
theorem dX8_whyHere_0 : decode cX8_whyHere 0 = .ok (.iload_n 1, 1) := by decide +kernel
theorem dX8_whyHere_1 : decode cX8_whyHere 1 = .ok (.ifCond .eq 7, 3) := by decide +kernel
theorem dX8_whyHere_4 : decode cX8_whyHere 4 = .ok (.iload_n 1, 1) := by decide +kernel
theorem dX8_whyHere_5 : decode cX8_whyHere 5 = .ok (.goto 15, 3) := by decide +kernel
theorem dX8_whyHere_8 : decode cX8_whyHere 8 = .ok (.aload_n 0, 1) := by decide +kernel
theorem dX8_whyHere_9 : decode cX8_whyHere 9 = .ok (.getfield 118, 3) := by decide +kernel
theorem dX8_whyHere_12 : decode cX8_whyHere 12 = .ok (.ifCond .ne 7, 3) := by decide +kernel
theorem dX8_whyHere_15 : decode cX8_whyHere 15 = .ok (.iconst 5, 1) := by decide +kernel
theorem dX8_whyHere_16 : decode cX8_whyHere 16 = .ok (.goto 4, 3) := by decide +kernel
theorem dX8_whyHere_19 : decode cX8_whyHere 19 = .ok (.iconst 0, 1) := by decide +kernel
theorem dX8_whyHere_20 : decode cX8_whyHere 20 = .ok (.ireturn, 1) := by decide +kernel
theorem dX8_why_0 : decode cX8_why 0 = .ok (.iload_n 0, 1) := by decide +kernel
theorem dX8_why_1 : decode cX8_why 1 = .ok (.ifCond .ne 7, 3) := by decide +kernel
theorem dX8_why_4 : decode cX8_why 4 = .ok (.iconst 1, 1) := by decide +kernel
theorem dX8_why_5 : decode cX8_why 5 = .ok (.goto 12, 3) := by decide +kernel
theorem dX8_why_8 : decode cX8_why 8 = .ok (.iload_n 1, 1) := by decide +kernel
theorem dX8_why_9 : decode cX8_why 9 = .ok (.ifCond .eq 7, 3) := by decide +kernel
theorem dX8_why_12 : decode cX8_why 12 = .ok (.iconst 0, 1) := by decide +kernel
theorem dX8_why_13 : decode cX8_why 13 = .ok (.goto 4, 3) := by decide +kernel
theorem dX8_why_16 : decode cX8_why 16 = .ok (.iconst 2, 1) := by decide +kernel
theorem dX8_why_17 : decode cX8_why 17 = .ok (.ireturn, 1) := by decide +kernel
theorem dX8_placeOf_0 : decode cX8_placeOf 0 = .ok (.aload_n 0, 1) := by decide +kernel
theorem dX8_placeOf_1 : decode cX8_placeOf 1 = .ok (.getfield 56, 3) := by decide +kernel
theorem dX8_placeOf_4 : decode cX8_placeOf 4 = .ok (.invokestatic 96, 3) := by decide +kernel
theorem dX8_placeOf_7 : decode cX8_placeOf 7 = .ok (.iconst 0, 1) := by decide +kernel
theorem dX8_placeOf_8 : decode cX8_placeOf 8 = .ok (.istore_n 2, 1) := by decide +kernel
theorem dX8_placeOf_9 : decode cX8_placeOf 9 = .ok (.iconst 0, 1) := by decide +kernel
theorem dX8_placeOf_10 : decode cX8_placeOf 10 = .ok (.istore_n 3, 1) := by decide +kernel
theorem dX8_placeOf_11 : decode cX8_placeOf 11 = .ok (.iload_n 3, 1) := by decide +kernel
theorem dX8_placeOf_12 : decode cX8_placeOf 12 = .ok (.aload_n 0, 1) := by decide +kernel
theorem dX8_placeOf_13 : decode cX8_placeOf 13 = .ok (.getfield 118, 3) := by decide +kernel
theorem dX8_placeOf_16 : decode cX8_placeOf 16 = .ok (.if_icmp .ge 159, 3) := by decide +kernel
theorem dX8_placeOf_19 : decode cX8_placeOf 19 = .ok (.iconst 0, 1) := by decide +kernel
theorem dX8_placeOf_20 : decode cX8_placeOf 20 = .ok (.istore 4, 2) := by decide +kernel
theorem dX8_placeOf_22 : decode cX8_placeOf 22 = .ok (.iconst 0, 1) := by decide +kernel
theorem dX8_placeOf_23 : decode cX8_placeOf 23 = .ok (.istore 5, 2) := by decide +kernel
theorem dX8_placeOf_25 : decode cX8_placeOf 25 = .ok (.iconst 0, 1) := by decide +kernel
theorem dX8_placeOf_26 : decode cX8_placeOf 26 = .ok (.istore 6, 2) := by decide +kernel
theorem dX8_placeOf_28 : decode cX8_placeOf 28 = .ok (.iload 6, 2) := by decide +kernel
theorem dX8_placeOf_30 : decode cX8_placeOf 30 = .ok (.aload_n 0, 1) := by decide +kernel
theorem dX8_placeOf_31 : decode cX8_placeOf 31 = .ok (.getfield 118, 3) := by decide +kernel
theorem dX8_placeOf_34 : decode cX8_placeOf 34 = .ok (.if_icmp .ge 64, 3) := by decide +kernel
theorem dX8_placeOf_37 : decode cX8_placeOf 37 = .ok (.aload_n 0, 1) := by decide +kernel
theorem dX8_placeOf_38 : decode cX8_placeOf 38 = .ok (.getfield 56, 3) := by decide +kernel
theorem dX8_placeOf_41 : decode cX8_placeOf 41 = .ok (.iload 6, 2) := by decide +kernel
theorem dX8_placeOf_43 : decode cX8_placeOf 43 = .ok (.iaload, 1) := by decide +kernel
theorem dX8_placeOf_44 : decode cX8_placeOf 44 = .ok (.aload_n 1, 1) := by decide +kernel
theorem dX8_placeOf_45 : decode cX8_placeOf 45 = .ok (.iload_n 3, 1) := by decide +kernel
theorem dX8_placeOf_46 : decode cX8_placeOf 46 = .ok (.iaload, 1) := by decide +kernel
theorem dX8_placeOf_47 : decode cX8_placeOf 47 = .ok (.if_icmp .ne 7, 3) := by decide +kernel
theorem dX8_placeOf_50 : decode cX8_placeOf 50 = .ok (.iload 6, 2) := by decide +kernel
theorem dX8_placeOf_52 : decode cX8_placeOf 52 = .ok (.istore 4, 2) := by decide +kernel
theorem dX8_placeOf_54 : decode cX8_placeOf 54 = .ok (.iload 5, 2) := by decide +kernel
theorem dX8_placeOf_56 : decode cX8_placeOf 56 = .ok (.aload_n 0, 1) := by decide +kernel
theorem dX8_placeOf_57 : decode cX8_placeOf 57 = .ok (.getfield 34, 3) := by decide +kernel
theorem dX8_placeOf_60 : decode cX8_placeOf 60 = .ok (.bipush 10, 2) := by decide +kernel
theorem dX8_placeOf_62 : decode cX8_placeOf 62 = .ok (.iload_n 3, 1) := by decide +kernel
theorem dX8_placeOf_63 : decode cX8_placeOf 63 = .ok (.imul, 1) := by decide +kernel
theorem dX8_placeOf_64 : decode cX8_placeOf 64 = .ok (.iload 6, 2) := by decide +kernel
theorem dX8_placeOf_66 : decode cX8_placeOf 66 = .ok (.iadd, 1) := by decide +kernel
theorem dX8_placeOf_67 : decode cX8_placeOf 67 = .ok (.baload, 1) := by decide +kernel
theorem dX8_placeOf_68 : decode cX8_placeOf 68 = .ok (.ifCond .eq 20, 3) := by decide +kernel
theorem dX8_placeOf_71 : decode cX8_placeOf 71 = .ok (.aload_n 0, 1) := by decide +kernel
theorem dX8_placeOf_72 : decode cX8_placeOf 72 = .ok (.getfield 56, 3) := by decide +kernel
theorem dX8_placeOf_75 : decode cX8_placeOf 75 = .ok (.iload 6, 2) := by decide +kernel
theorem dX8_placeOf_77 : decode cX8_placeOf 77 = .ok (.iaload, 1) := by decide +kernel
theorem dX8_placeOf_78 : decode cX8_placeOf 78 = .ok (.aload_n 1, 1) := by decide +kernel
theorem dX8_placeOf_79 : decode cX8_placeOf 79 = .ok (.iload_n 3, 1) := by decide +kernel
theorem dX8_placeOf_80 : decode cX8_placeOf 80 = .ok (.iaload, 1) := by decide +kernel
theorem dX8_placeOf_81 : decode cX8_placeOf 81 = .ok (.if_icmp .ge 7, 3) := by decide +kernel
theorem dX8_placeOf_84 : decode cX8_placeOf 84 = .ok (.iconst 1, 1) := by decide +kernel
theorem dX8_placeOf_85 : decode cX8_placeOf 85 = .ok (.goto 4, 3) := by decide +kernel
theorem dX8_placeOf_88 : decode cX8_placeOf 88 = .ok (.iconst 0, 1) := by decide +kernel
theorem dX8_placeOf_89 : decode cX8_placeOf 89 = .ok (.iadd, 1) := by decide +kernel
theorem dX8_placeOf_90 : decode cX8_placeOf 90 = .ok (.istore 5, 2) := by decide +kernel
theorem dX8_placeOf_92 : decode cX8_placeOf 92 = .ok (.iinc 6 1, 3) := by decide +kernel
theorem dX8_placeOf_95 : decode cX8_placeOf 95 = .ok (.goto (-67), 3) := by decide +kernel
theorem dX8_placeOf_98 : decode cX8_placeOf 98 = .ok (.aload_n 0, 1) := by decide +kernel
theorem dX8_placeOf_99 : decode cX8_placeOf 99 = .ok (.getfield 34, 3) := by decide +kernel
theorem dX8_placeOf_102 : decode cX8_placeOf 102 = .ok (.bipush 10, 2) := by decide +kernel
theorem dX8_placeOf_104 : decode cX8_placeOf 104 = .ok (.iload_n 3, 1) := by decide +kernel
theorem dX8_placeOf_105 : decode cX8_placeOf 105 = .ok (.imul, 1) := by decide +kernel
theorem dX8_placeOf_106 : decode cX8_placeOf 106 = .ok (.iload 4, 2) := by decide +kernel
theorem dX8_placeOf_108 : decode cX8_placeOf 108 = .ok (.iadd, 1) := by decide +kernel
theorem dX8_placeOf_109 : decode cX8_placeOf 109 = .ok (.baload, 1) := by decide +kernel
theorem dX8_placeOf_110 : decode cX8_placeOf 110 = .ok (.ifCond .ne 5, 3) := by decide +kernel
theorem dX8_placeOf_113 : decode cX8_placeOf 113 = .ok (.iconst (-1), 1) := by decide +kernel
theorem dX8_placeOf_114 : decode cX8_placeOf 114 = .ok (.ireturn, 1) := by decide +kernel
theorem dX8_placeOf_115 : decode cX8_placeOf 115 = .ok (.iload_n 2, 1) := by decide +kernel
theorem dX8_placeOf_116 : decode cX8_placeOf 116 = .ok (.iload 5, 2) := by decide +kernel
theorem dX8_placeOf_118 : decode cX8_placeOf 118 = .ok (.aload_n 0, 1) := by decide +kernel
theorem dX8_placeOf_119 : decode cX8_placeOf 119 = .ok (.iconst 0, 1) := by decide +kernel
theorem dX8_placeOf_120 : decode cX8_placeOf 120 = .ok (.iload_n 3, 1) := by decide +kernel
theorem dX8_placeOf_121 : decode cX8_placeOf 121 = .ok (.iconst 1, 1) := by decide +kernel
theorem dX8_placeOf_122 : decode cX8_placeOf 122 = .ok (.iadd, 1) := by decide +kernel
theorem dX8_placeOf_123 : decode cX8_placeOf 123 = .ok (.invokevirtual 168, 3) := by decide +kernel
theorem dX8_placeOf_126 : decode cX8_placeOf 126 = .ok (.imul, 1) := by decide +kernel
theorem dX8_placeOf_127 : decode cX8_placeOf 127 = .ok (.iadd, 1) := by decide +kernel
theorem dX8_placeOf_128 : decode cX8_placeOf 128 = .ok (.istore_n 2, 1) := by decide +kernel
theorem dX8_placeOf_129 : decode cX8_placeOf 129 = .ok (.aload_n 0, 1) := by decide +kernel
theorem dX8_placeOf_130 : decode cX8_placeOf 130 = .ok (.iconst 0, 1) := by decide +kernel
theorem dX8_placeOf_131 : decode cX8_placeOf 131 = .ok (.iload_n 3, 1) := by decide +kernel
theorem dX8_placeOf_132 : decode cX8_placeOf 132 = .ok (.iload 4, 2) := by decide +kernel
theorem dX8_placeOf_134 : decode cX8_placeOf 134 = .ok (.aload_n 0, 1) := by decide +kernel
theorem dX8_placeOf_135 : decode cX8_placeOf 135 = .ok (.getfield 50, 3) := by decide +kernel
theorem dX8_placeOf_138 : decode cX8_placeOf 138 = .ok (.invokevirtual 134, 3) := by decide +kernel
theorem dX8_placeOf_141 : decode cX8_placeOf 141 = .ok (.aload_n 0, 1) := by decide +kernel
theorem dX8_placeOf_142 : decode cX8_placeOf 142 = .ok (.getfield 56, 3) := by decide +kernel
theorem dX8_placeOf_145 : decode cX8_placeOf 145 = .ok (.iconst 0, 1) := by decide +kernel
theorem dX8_placeOf_146 : decode cX8_placeOf 146 = .ok (.aload_n 0, 1) := by decide +kernel
theorem dX8_placeOf_147 : decode cX8_placeOf 147 = .ok (.getfield 53, 3) := by decide +kernel
theorem dX8_placeOf_150 : decode cX8_placeOf 150 = .ok (.iconst 0, 1) := by decide +kernel
theorem dX8_placeOf_151 : decode cX8_placeOf 151 = .ok (.invokestatic 100, 3) := by decide +kernel
theorem dX8_placeOf_154 : decode cX8_placeOf 154 = .ok (.aload_n 0, 1) := by decide +kernel
theorem dX8_placeOf_155 : decode cX8_placeOf 155 = .ok (.getfield 50, 3) := by decide +kernel
theorem dX8_placeOf_158 : decode cX8_placeOf 158 = .ok (.aload_n 0, 1) := by decide +kernel
theorem dX8_placeOf_159 : decode cX8_placeOf 159 = .ok (.getfield 53, 3) := by decide +kernel
theorem dX8_placeOf_162 : decode cX8_placeOf 162 = .ok (.aload_n 0, 1) := by decide +kernel
theorem dX8_placeOf_163 : decode cX8_placeOf 163 = .ok (.getfield 56, 3) := by decide +kernel
theorem dX8_placeOf_166 : decode cX8_placeOf 166 = .ok (.invokestatic 138, 3) := by decide +kernel
theorem dX8_placeOf_169 : decode cX8_placeOf 169 = .ok (.iinc 3 1, 3) := by decide +kernel
theorem dX8_placeOf_172 : decode cX8_placeOf 172 = .ok (.goto (-161), 3) := by decide +kernel
theorem dX8_placeOf_175 : decode cX8_placeOf 175 = .ok (.iload_n 2, 1) := by decide +kernel
theorem dX8_placeOf_176 : decode cX8_placeOf 176 = .ok (.ireturn, 1) := by decide +kernel
theorem dX8_laysNth_0 : decode cX8_laysNth 0 = .ok (.aload_n 0, 1) := by decide +kernel
theorem dX8_laysNth_1 : decode cX8_laysNth 1 = .ok (.getfield 56, 3) := by decide +kernel
theorem dX8_laysNth_4 : decode cX8_laysNth 4 = .ok (.invokestatic 96, 3) := by decide +kernel
theorem dX8_laysNth_7 : decode cX8_laysNth 7 = .ok (.iload_n 1, 1) := by decide +kernel
theorem dX8_laysNth_8 : decode cX8_laysNth 8 = .ok (.istore_n 3, 1) := by decide +kernel
theorem dX8_laysNth_9 : decode cX8_laysNth 9 = .ok (.iconst 0, 1) := by decide +kernel
theorem dX8_laysNth_10 : decode cX8_laysNth 10 = .ok (.istore 4, 2) := by decide +kernel
theorem dX8_laysNth_12 : decode cX8_laysNth 12 = .ok (.iload 4, 2) := by decide +kernel
theorem dX8_laysNth_14 : decode cX8_laysNth 14 = .ok (.aload_n 0, 1) := by decide +kernel
theorem dX8_laysNth_15 : decode cX8_laysNth 15 = .ok (.getfield 118, 3) := by decide +kernel
theorem dX8_laysNth_18 : decode cX8_laysNth 18 = .ok (.if_icmp .ge 160, 3) := by decide +kernel
theorem dX8_laysNth_21 : decode cX8_laysNth 21 = .ok (.aload_n 0, 1) := by decide +kernel
theorem dX8_laysNth_22 : decode cX8_laysNth 22 = .ok (.iconst 0, 1) := by decide +kernel
theorem dX8_laysNth_23 : decode cX8_laysNth 23 = .ok (.iload 4, 2) := by decide +kernel
theorem dX8_laysNth_25 : decode cX8_laysNth 25 = .ok (.iconst 1, 1) := by decide +kernel
theorem dX8_laysNth_26 : decode cX8_laysNth 26 = .ok (.iadd, 1) := by decide +kernel
theorem dX8_laysNth_27 : decode cX8_laysNth 27 = .ok (.invokevirtual 168, 3) := by decide +kernel
theorem dX8_laysNth_30 : decode cX8_laysNth 30 = .ok (.istore 5, 2) := by decide +kernel
theorem dX8_laysNth_32 : decode cX8_laysNth 32 = .ok (.iload_n 3, 1) := by decide +kernel
theorem dX8_laysNth_33 : decode cX8_laysNth 33 = .ok (.iload 5, 2) := by decide +kernel
theorem dX8_laysNth_35 : decode cX8_laysNth 35 = .ok (.idiv, 1) := by decide +kernel
theorem dX8_laysNth_36 : decode cX8_laysNth 36 = .ok (.istore 6, 2) := by decide +kernel
theorem dX8_laysNth_38 : decode cX8_laysNth 38 = .ok (.iload_n 3, 1) := by decide +kernel
theorem dX8_laysNth_39 : decode cX8_laysNth 39 = .ok (.iload 5, 2) := by decide +kernel
theorem dX8_laysNth_41 : decode cX8_laysNth 41 = .ok (.irem, 1) := by decide +kernel
theorem dX8_laysNth_42 : decode cX8_laysNth 42 = .ok (.istore_n 3, 1) := by decide +kernel
theorem dX8_laysNth_43 : decode cX8_laysNth 43 = .ok (.iconst (-1), 1) := by decide +kernel
theorem dX8_laysNth_44 : decode cX8_laysNth 44 = .ok (.istore 7, 2) := by decide +kernel
theorem dX8_laysNth_46 : decode cX8_laysNth 46 = .ok (.iconst 0, 1) := by decide +kernel
theorem dX8_laysNth_47 : decode cX8_laysNth 47 = .ok (.istore 8, 2) := by decide +kernel
theorem dX8_laysNth_49 : decode cX8_laysNth 49 = .ok (.iload 8, 2) := by decide +kernel
theorem dX8_laysNth_51 : decode cX8_laysNth 51 = .ok (.aload_n 0, 1) := by decide +kernel
theorem dX8_laysNth_52 : decode cX8_laysNth 52 = .ok (.getfield 118, 3) := by decide +kernel
theorem dX8_laysNth_55 : decode cX8_laysNth 55 = .ok (.if_icmp .ge 76, 3) := by decide +kernel
theorem dX8_laysNth_58 : decode cX8_laysNth 58 = .ok (.iload 7, 2) := by decide +kernel
theorem dX8_laysNth_60 : decode cX8_laysNth 60 = .ok (.iconst (-1), 1) := by decide +kernel
theorem dX8_laysNth_61 : decode cX8_laysNth 61 = .ok (.if_icmp .ne 70, 3) := by decide +kernel
theorem dX8_laysNth_64 : decode cX8_laysNth 64 = .ok (.iconst 0, 1) := by decide +kernel
theorem dX8_laysNth_65 : decode cX8_laysNth 65 = .ok (.istore 9, 2) := by decide +kernel
theorem dX8_laysNth_67 : decode cX8_laysNth 67 = .ok (.iload 9, 2) := by decide +kernel
theorem dX8_laysNth_69 : decode cX8_laysNth 69 = .ok (.aload_n 0, 1) := by decide +kernel
theorem dX8_laysNth_70 : decode cX8_laysNth 70 = .ok (.getfield 118, 3) := by decide +kernel
theorem dX8_laysNth_73 : decode cX8_laysNth 73 = .ok (.if_icmp .ge 52, 3) := by decide +kernel
theorem dX8_laysNth_76 : decode cX8_laysNth 76 = .ok (.aload_n 0, 1) := by decide +kernel
theorem dX8_laysNth_77 : decode cX8_laysNth 77 = .ok (.getfield 56, 3) := by decide +kernel
theorem dX8_laysNth_80 : decode cX8_laysNth 80 = .ok (.iload 9, 2) := by decide +kernel
theorem dX8_laysNth_82 : decode cX8_laysNth 82 = .ok (.iaload, 1) := by decide +kernel
theorem dX8_laysNth_83 : decode cX8_laysNth 83 = .ok (.iload 8, 2) := by decide +kernel
theorem dX8_laysNth_85 : decode cX8_laysNth 85 = .ok (.if_icmp .ne 34, 3) := by decide +kernel
theorem dX8_laysNth_88 : decode cX8_laysNth 88 = .ok (.aload_n 0, 1) := by decide +kernel
theorem dX8_laysNth_89 : decode cX8_laysNth 89 = .ok (.getfield 34, 3) := by decide +kernel
theorem dX8_laysNth_92 : decode cX8_laysNth 92 = .ok (.bipush 10, 2) := by decide +kernel
theorem dX8_laysNth_94 : decode cX8_laysNth 94 = .ok (.iload 4, 2) := by decide +kernel
theorem dX8_laysNth_96 : decode cX8_laysNth 96 = .ok (.imul, 1) := by decide +kernel
theorem dX8_laysNth_97 : decode cX8_laysNth 97 = .ok (.iload 9, 2) := by decide +kernel
theorem dX8_laysNth_99 : decode cX8_laysNth 99 = .ok (.iadd, 1) := by decide +kernel
theorem dX8_laysNth_100 : decode cX8_laysNth 100 = .ok (.baload, 1) := by decide +kernel
theorem dX8_laysNth_101 : decode cX8_laysNth 101 = .ok (.ifCond .ne 6, 3) := by decide +kernel
theorem dX8_laysNth_104 : decode cX8_laysNth 104 = .ok (.goto 15, 3) := by decide +kernel
theorem dX8_laysNth_107 : decode cX8_laysNth 107 = .ok (.iload 6, 2) := by decide +kernel
theorem dX8_laysNth_109 : decode cX8_laysNth 109 = .ok (.ifCond .ne 7, 3) := by decide +kernel
theorem dX8_laysNth_112 : decode cX8_laysNth 112 = .ok (.iload 9, 2) := by decide +kernel
theorem dX8_laysNth_114 : decode cX8_laysNth 114 = .ok (.istore 7, 2) := by decide +kernel
theorem dX8_laysNth_116 : decode cX8_laysNth 116 = .ok (.iinc 6 (-1), 3) := by decide +kernel
theorem dX8_laysNth_119 : decode cX8_laysNth 119 = .ok (.iinc 9 1, 3) := by decide +kernel
theorem dX8_laysNth_122 : decode cX8_laysNth 122 = .ok (.goto (-55), 3) := by decide +kernel
theorem dX8_laysNth_125 : decode cX8_laysNth 125 = .ok (.iinc 8 1, 3) := by decide +kernel
theorem dX8_laysNth_128 : decode cX8_laysNth 128 = .ok (.goto (-79), 3) := by decide +kernel
theorem dX8_laysNth_131 : decode cX8_laysNth 131 = .ok (.aload_n 0, 1) := by decide +kernel
theorem dX8_laysNth_132 : decode cX8_laysNth 132 = .ok (.iconst 0, 1) := by decide +kernel
theorem dX8_laysNth_133 : decode cX8_laysNth 133 = .ok (.iload 4, 2) := by decide +kernel
theorem dX8_laysNth_135 : decode cX8_laysNth 135 = .ok (.iload 7, 2) := by decide +kernel
theorem dX8_laysNth_137 : decode cX8_laysNth 137 = .ok (.aload_n 0, 1) := by decide +kernel
theorem dX8_laysNth_138 : decode cX8_laysNth 138 = .ok (.getfield 50, 3) := by decide +kernel
theorem dX8_laysNth_141 : decode cX8_laysNth 141 = .ok (.invokevirtual 134, 3) := by decide +kernel
theorem dX8_laysNth_144 : decode cX8_laysNth 144 = .ok (.aload_n 0, 1) := by decide +kernel
theorem dX8_laysNth_145 : decode cX8_laysNth 145 = .ok (.getfield 56, 3) := by decide +kernel
theorem dX8_laysNth_148 : decode cX8_laysNth 148 = .ok (.iconst 0, 1) := by decide +kernel
theorem dX8_laysNth_149 : decode cX8_laysNth 149 = .ok (.aload_n 0, 1) := by decide +kernel
theorem dX8_laysNth_150 : decode cX8_laysNth 150 = .ok (.getfield 53, 3) := by decide +kernel
theorem dX8_laysNth_153 : decode cX8_laysNth 153 = .ok (.iconst 0, 1) := by decide +kernel
theorem dX8_laysNth_154 : decode cX8_laysNth 154 = .ok (.invokestatic 100, 3) := by decide +kernel
theorem dX8_laysNth_157 : decode cX8_laysNth 157 = .ok (.aload_n 0, 1) := by decide +kernel
theorem dX8_laysNth_158 : decode cX8_laysNth 158 = .ok (.getfield 50, 3) := by decide +kernel
theorem dX8_laysNth_161 : decode cX8_laysNth 161 = .ok (.aload_n 0, 1) := by decide +kernel
theorem dX8_laysNth_162 : decode cX8_laysNth 162 = .ok (.getfield 53, 3) := by decide +kernel
theorem dX8_laysNth_165 : decode cX8_laysNth 165 = .ok (.aload_n 0, 1) := by decide +kernel
theorem dX8_laysNth_166 : decode cX8_laysNth 166 = .ok (.getfield 56, 3) := by decide +kernel
theorem dX8_laysNth_169 : decode cX8_laysNth 169 = .ok (.invokestatic 138, 3) := by decide +kernel
theorem dX8_laysNth_172 : decode cX8_laysNth 172 = .ok (.iinc 4 1, 3) := by decide +kernel
theorem dX8_laysNth_175 : decode cX8_laysNth 175 = .ok (.goto (-163), 3) := by decide +kernel
theorem dX8_laysNth_178 : decode cX8_laysNth 178 = .ok (.aload_n 0, 1) := by decide +kernel
theorem dX8_laysNth_179 : decode cX8_laysNth 179 = .ok (.getfield 56, 3) := by decide +kernel
theorem dX8_laysNth_182 : decode cX8_laysNth 182 = .ok (.iconst 0, 1) := by decide +kernel
theorem dX8_laysNth_183 : decode cX8_laysNth 183 = .ok (.aload_n 2, 1) := by decide +kernel
theorem dX8_laysNth_184 : decode cX8_laysNth 184 = .ok (.iconst 0, 1) := by decide +kernel
theorem dX8_laysNth_185 : decode cX8_laysNth 185 = .ok (.invokestatic 100, 3) := by decide +kernel
theorem dX8_laysNth_188 : decode cX8_laysNth 188 = .ok (.return_, 1) := by decide +kernel
theorem dX8_many_0 : decode cX8_many 0 = .ok (.aload_n 0, 1) := by decide +kernel
theorem dX8_many_1 : decode cX8_many 1 = .ok (.iload_n 1, 1) := by decide +kernel
theorem dX8_many_2 : decode cX8_many 2 = .ok (.i2l, 1) := by decide +kernel
theorem dX8_many_3 : decode cX8_many 3 = .ok (.lconst 0, 1) := by decide +kernel
theorem dX8_many_4 : decode cX8_many 4 = .ok (.ldc2_w 192, 3) := by decide +kernel
theorem dX8_many_7 : decode cX8_many 7 = .ok (.invokestatic 114, 3) := by decide +kernel
theorem dX8_many_10 : decode cX8_many 10 = .ok (.ifCond .eq 7, 3) := by decide +kernel
theorem dX8_many_13 : decode cX8_many 13 = .ok (.iconst 0, 1) := by decide +kernel
theorem dX8_many_14 : decode cX8_many 14 = .ok (.goto 4, 3) := by decide +kernel
theorem dX8_many_17 : decode cX8_many 17 = .ok (.iconst 1, 1) := by decide +kernel
theorem dX8_many_18 : decode cX8_many 18 = .ok (.invokevirtual 194, 3) := by decide +kernel
theorem dX8_many_21 : decode cX8_many 21 = .ok (.ifCond .ne 5, 3) := by decide +kernel
theorem dX8_many_24 : decode cX8_many 24 = .ok (.iconst (-1), 1) := by decide +kernel
theorem dX8_many_25 : decode cX8_many 25 = .ok (.ireturn, 1) := by decide +kernel
theorem dX8_many_26 : decode cX8_many 26 = .ok (.aload_n 0, 1) := by decide +kernel
theorem dX8_many_27 : decode cX8_many 27 = .ok (.aload_n 0, 1) := by decide +kernel
theorem dX8_many_28 : decode cX8_many 28 = .ok (.getfield 16, 3) := by decide +kernel
theorem dX8_many_31 : decode cX8_many 31 = .ok (.invokevirtual 198, 3) := by decide +kernel
theorem dX8_many_34 : decode cX8_many 34 = .ok (.iload_n 1, 1) := by decide +kernel
theorem dX8_many_35 : decode cX8_many 35 = .ok (.ifCond .ne 10, 3) := by decide +kernel
theorem dX8_many_38 : decode cX8_many 38 = .ok (.aload_n 0, 1) := by decide +kernel
theorem dX8_many_39 : decode cX8_many 39 = .ok (.getfield 118, 3) := by decide +kernel
theorem dX8_many_42 : decode cX8_many 42 = .ok (.goto 42, 3) := by decide +kernel
theorem dX8_many_45 : decode cX8_many 45 = .ok (.iload_n 1, 1) := by decide +kernel
theorem dX8_many_46 : decode cX8_many 46 = .ok (.iconst 1, 1) := by decide +kernel
theorem dX8_many_47 : decode cX8_many 47 = .ok (.if_icmp .ne 10, 3) := by decide +kernel
theorem dX8_many_50 : decode cX8_many 50 = .ok (.aload_n 0, 1) := by decide +kernel
theorem dX8_many_51 : decode cX8_many 51 = .ok (.invokevirtual 110, 3) := by decide +kernel
theorem dX8_many_54 : decode cX8_many 54 = .ok (.goto 30, 3) := by decide +kernel
theorem dX8_many_57 : decode cX8_many 57 = .ok (.iload_n 1, 1) := by decide +kernel
theorem dX8_many_58 : decode cX8_many 58 = .ok (.iconst 2, 1) := by decide +kernel
theorem dX8_many_59 : decode cX8_many 59 = .ok (.if_icmp .ne 10, 3) := by decide +kernel
theorem dX8_many_62 : decode cX8_many 62 = .ok (.aload_n 0, 1) := by decide +kernel
theorem dX8_many_63 : decode cX8_many 63 = .ok (.getfield 121, 3) := by decide +kernel
theorem dX8_many_66 : decode cX8_many 66 = .ok (.goto 18, 3) := by decide +kernel
theorem dX8_many_69 : decode cX8_many 69 = .ok (.aload_n 0, 1) := by decide +kernel
theorem dX8_many_70 : decode cX8_many 70 = .ok (.getfield 16, 3) := by decide +kernel
theorem dX8_many_73 : decode cX8_many 73 = .ok (.invokestatic 201, 3) := by decide +kernel
theorem dX8_many_76 : decode cX8_many 76 = .ok (.ifCond .eq 7, 3) := by decide +kernel
theorem dX8_many_79 : decode cX8_many 79 = .ok (.iconst 1, 1) := by decide +kernel
theorem dX8_many_80 : decode cX8_many 80 = .ok (.goto 4, 3) := by decide +kernel
theorem dX8_many_83 : decode cX8_many 83 = .ok (.iconst 0, 1) := by decide +kernel
theorem dX8_many_84 : decode cX8_many 84 = .ok (.ireturn, 1) := by decide +kernel
theorem dX8_step_0 : decode cX8_step 0 = .ok (.aload_n 0, 1) := by decide +kernel
theorem dX8_step_1 : decode cX8_step 1 = .ok (.aload_n 0, 1) := by decide +kernel
theorem dX8_step_2 : decode cX8_step 2 = .ok (.iload_n 1, 1) := by decide +kernel
theorem dX8_step_3 : decode cX8_step 3 = .ok (.invokevirtual 205, 3) := by decide +kernel
theorem dX8_step_6 : decode cX8_step 6 = .ok (.ifCond .eq 7, 3) := by decide +kernel
theorem dX8_step_9 : decode cX8_step 9 = .ok (.iconst 0, 1) := by decide +kernel
theorem dX8_step_10 : decode cX8_step 10 = .ok (.goto 4, 3) := by decide +kernel
theorem dX8_step_13 : decode cX8_step 13 = .ok (.iconst 2, 1) := by decide +kernel
theorem dX8_step_14 : decode cX8_step 14 = .ok (.invokevirtual 194, 3) := by decide +kernel
theorem dX8_step_17 : decode cX8_step 17 = .ok (.ifCond .ne 7, 3) := by decide +kernel
theorem dX8_step_20 : decode cX8_step 20 = .ok (.ldc2_w 208, 3) := by decide +kernel
theorem dX8_step_23 : decode cX8_step 23 = .ok (.lreturn, 1) := by decide +kernel
theorem dX8_step_24 : decode cX8_step 24 = .ok (.aload_n 0, 1) := by decide +kernel
theorem dX8_step_25 : decode cX8_step 25 = .ok (.iload_n 1, 1) := by decide +kernel
theorem dX8_step_26 : decode cX8_step 26 = .ok (.aload_n 0, 1) := by decide +kernel
theorem dX8_step_27 : decode cX8_step 27 = .ok (.getfield 16, 3) := by decide +kernel
theorem dX8_step_30 : decode cX8_step 30 = .ok (.invokevirtual 210, 3) := by decide +kernel
theorem dX8_step_33 : decode cX8_step 33 = .ok (.aload_n 0, 1) := by decide +kernel
theorem dX8_step_34 : decode cX8_step 34 = .ok (.aload_n 0, 1) := by decide +kernel
theorem dX8_step_35 : decode cX8_step 35 = .ok (.getfield 16, 3) := by decide +kernel
theorem dX8_step_38 : decode cX8_step 38 = .ok (.invokevirtual 213, 3) := by decide +kernel
theorem dX8_step_41 : decode cX8_step 41 = .ok (.lreturn, 1) := by decide +kernel
theorem dX8_stand_0 : decode cX8_stand 0 = .ok (.aload_n 0, 1) := by decide +kernel
theorem dX8_stand_1 : decode cX8_stand 1 = .ok (.aload_n 0, 1) := by decide +kernel
theorem dX8_stand_2 : decode cX8_stand 2 = .ok (.getfield 118, 3) := by decide +kernel
theorem dX8_stand_5 : decode cX8_stand 5 = .ok (.ifCond .ne 7, 3) := by decide +kernel
theorem dX8_stand_8 : decode cX8_stand 8 = .ok (.iconst 5, 1) := by decide +kernel
theorem dX8_stand_9 : decode cX8_stand 9 = .ok (.goto 4, 3) := by decide +kernel
theorem dX8_stand_12 : decode cX8_stand 12 = .ok (.iconst 0, 1) := by decide +kernel
theorem dX8_stand_13 : decode cX8_stand 13 = .ok (.invokevirtual 194, 3) := by decide +kernel
theorem dX8_stand_16 : decode cX8_stand 16 = .ok (.ifCond .ne 7, 3) := by decide +kernel
theorem dX8_stand_19 : decode cX8_stand 19 = .ok (.ldc2_w 208, 3) := by decide +kernel
theorem dX8_stand_22 : decode cX8_stand 22 = .ok (.lreturn, 1) := by decide +kernel
theorem dX8_stand_23 : decode cX8_stand 23 = .ok (.aload_n 0, 1) := by decide +kernel
theorem dX8_stand_24 : decode cX8_stand 24 = .ok (.aload_n 0, 1) := by decide +kernel
theorem dX8_stand_25 : decode cX8_stand 25 = .ok (.getfield 16, 3) := by decide +kernel
theorem dX8_stand_28 : decode cX8_stand 28 = .ok (.invokevirtual 198, 3) := by decide +kernel
theorem dX8_stand_31 : decode cX8_stand 31 = .ok (.aload_n 0, 1) := by decide +kernel
theorem dX8_stand_32 : decode cX8_stand 32 = .ok (.aload_n 0, 1) := by decide +kernel
theorem dX8_stand_33 : decode cX8_stand 33 = .ok (.getfield 16, 3) := by decide +kernel
theorem dX8_stand_36 : decode cX8_stand 36 = .ok (.invokevirtual 213, 3) := by decide +kernel
theorem dX8_stand_39 : decode cX8_stand 39 = .ok (.lreturn, 1) := by decide +kernel
theorem dX8_takes_0 : decode cX8_takes 0 = .ok (.aload_n 0, 1) := by decide +kernel
theorem dX8_takes_1 : decode cX8_takes 1 = .ok (.aload_n 0, 1) := by decide +kernel
theorem dX8_takes_2 : decode cX8_takes 2 = .ok (.lload_n 1, 1) := by decide +kernel
theorem dX8_takes_3 : decode cX8_takes 3 = .ok (.aload_n 0, 1) := by decide +kernel
theorem dX8_takes_4 : decode cX8_takes 4 = .ok (.getfield 16, 3) := by decide +kernel
theorem dX8_takes_7 : decode cX8_takes 7 = .ok (.invokevirtual 217, 3) := by decide +kernel
theorem dX8_takes_10 : decode cX8_takes 10 = .ok (.aload_n 0, 1) := by decide +kernel
theorem dX8_takes_11 : decode cX8_takes 11 = .ok (.iload_n 3, 1) := by decide +kernel
theorem dX8_takes_12 : decode cX8_takes 12 = .ok (.invokevirtual 221, 3) := by decide +kernel
theorem dX8_takes_15 : decode cX8_takes 15 = .ok (.invokestatic 224, 3) := by decide +kernel
theorem dX8_takes_18 : decode cX8_takes 18 = .ok (.invokevirtual 194, 3) := by decide +kernel
theorem dX8_takes_21 : decode cX8_takes 21 = .ok (.ifCond .eq 12, 3) := by decide +kernel
theorem dX8_takes_24 : decode cX8_takes 24 = .ok (.aload_n 0, 1) := by decide +kernel
theorem dX8_takes_25 : decode cX8_takes 25 = .ok (.getfield 16, 3) := by decide +kernel
theorem dX8_takes_28 : decode cX8_takes 28 = .ok (.iload_n 3, 1) := by decide +kernel
theorem dX8_takes_29 : decode cX8_takes 29 = .ok (.iaload, 1) := by decide +kernel
theorem dX8_takes_30 : decode cX8_takes 30 = .ok (.goto 4, 3) := by decide +kernel
theorem dX8_takes_33 : decode cX8_takes 33 = .ok (.iconst (-1), 1) := by decide +kernel
theorem dX8_takes_34 : decode cX8_takes 34 = .ok (.ireturn, 1) := by decide +kernel
theorem dX8_product_0 : decode cX8_product 0 = .ok (.aload_n 0, 1) := by decide +kernel
theorem dX8_product_1 : decode cX8_product 1 = .ok (.aload_n 0, 1) := by decide +kernel
theorem dX8_product_2 : decode cX8_product 2 = .ok (.lload_n 1, 1) := by decide +kernel
theorem dX8_product_3 : decode cX8_product 3 = .ok (.aload_n 0, 1) := by decide +kernel
theorem dX8_product_4 : decode cX8_product 4 = .ok (.getfield 16, 3) := by decide +kernel
theorem dX8_product_7 : decode cX8_product 7 = .ok (.invokevirtual 217, 3) := by decide +kernel
theorem dX8_product_10 : decode cX8_product 10 = .ok (.ifCond .eq 19, 3) := by decide +kernel
theorem dX8_product_13 : decode cX8_product 13 = .ok (.aload_n 0, 1) := by decide +kernel
theorem dX8_product_14 : decode cX8_product 14 = .ok (.lload_n 3, 1) := by decide +kernel
theorem dX8_product_15 : decode cX8_product 15 = .ok (.aload_n 0, 1) := by decide +kernel
theorem dX8_product_16 : decode cX8_product 16 = .ok (.getfield 19, 3) := by decide +kernel
theorem dX8_product_19 : decode cX8_product 19 = .ok (.invokevirtual 217, 3) := by decide +kernel
theorem dX8_product_22 : decode cX8_product 22 = .ok (.ifCond .eq 7, 3) := by decide +kernel
theorem dX8_product_25 : decode cX8_product 25 = .ok (.iconst 0, 1) := by decide +kernel
theorem dX8_product_26 : decode cX8_product 26 = .ok (.goto 4, 3) := by decide +kernel
theorem dX8_product_29 : decode cX8_product 29 = .ok (.iconst 1, 1) := by decide +kernel
theorem dX8_product_30 : decode cX8_product 30 = .ok (.invokevirtual 194, 3) := by decide +kernel
theorem dX8_product_33 : decode cX8_product 33 = .ok (.ifCond .ne 7, 3) := by decide +kernel
theorem dX8_product_36 : decode cX8_product 36 = .ok (.ldc2_w 208, 3) := by decide +kernel
theorem dX8_product_39 : decode cX8_product 39 = .ok (.lreturn, 1) := by decide +kernel
theorem dX8_product_40 : decode cX8_product 40 = .ok (.aload_n 0, 1) := by decide +kernel
theorem dX8_product_41 : decode cX8_product 41 = .ok (.getfield 16, 3) := by decide +kernel
theorem dX8_product_44 : decode cX8_product 44 = .ok (.aload_n 0, 1) := by decide +kernel
theorem dX8_product_45 : decode cX8_product 45 = .ok (.getfield 19, 3) := by decide +kernel
theorem dX8_product_48 : decode cX8_product 48 = .ok (.aload_n 0, 1) := by decide +kernel
theorem dX8_product_49 : decode cX8_product 49 = .ok (.getfield 22, 3) := by decide +kernel
theorem dX8_product_52 : decode cX8_product 52 = .ok (.invokestatic 138, 3) := by decide +kernel
theorem dX8_product_55 : decode cX8_product 55 = .ok (.aload_n 0, 1) := by decide +kernel
theorem dX8_product_56 : decode cX8_product 56 = .ok (.aload_n 0, 1) := by decide +kernel
theorem dX8_product_57 : decode cX8_product 57 = .ok (.getfield 22, 3) := by decide +kernel
theorem dX8_product_60 : decode cX8_product 60 = .ok (.invokevirtual 213, 3) := by decide +kernel
theorem dX8_product_63 : decode cX8_product 63 = .ok (.lreturn, 1) := by decide +kernel
theorem dX8_inverse_0 : decode cX8_inverse 0 = .ok (.aload_n 0, 1) := by decide +kernel
theorem dX8_inverse_1 : decode cX8_inverse 1 = .ok (.aload_n 0, 1) := by decide +kernel
theorem dX8_inverse_2 : decode cX8_inverse 2 = .ok (.lload_n 1, 1) := by decide +kernel
theorem dX8_inverse_3 : decode cX8_inverse 3 = .ok (.aload_n 0, 1) := by decide +kernel
theorem dX8_inverse_4 : decode cX8_inverse 4 = .ok (.getfield 16, 3) := by decide +kernel
theorem dX8_inverse_7 : decode cX8_inverse 7 = .ok (.invokevirtual 217, 3) := by decide +kernel
theorem dX8_inverse_10 : decode cX8_inverse 10 = .ok (.ifCond .eq 7, 3) := by decide +kernel
theorem dX8_inverse_13 : decode cX8_inverse 13 = .ok (.iconst 0, 1) := by decide +kernel
theorem dX8_inverse_14 : decode cX8_inverse 14 = .ok (.goto 4, 3) := by decide +kernel
theorem dX8_inverse_17 : decode cX8_inverse 17 = .ok (.iconst 1, 1) := by decide +kernel
theorem dX8_inverse_18 : decode cX8_inverse 18 = .ok (.invokevirtual 194, 3) := by decide +kernel
theorem dX8_inverse_21 : decode cX8_inverse 21 = .ok (.ifCond .ne 7, 3) := by decide +kernel
theorem dX8_inverse_24 : decode cX8_inverse 24 = .ok (.ldc2_w 208, 3) := by decide +kernel
theorem dX8_inverse_27 : decode cX8_inverse 27 = .ok (.lreturn, 1) := by decide +kernel
theorem dX8_inverse_28 : decode cX8_inverse 28 = .ok (.aload_n 0, 1) := by decide +kernel
theorem dX8_inverse_29 : decode cX8_inverse 29 = .ok (.getfield 16, 3) := by decide +kernel
theorem dX8_inverse_32 : decode cX8_inverse 32 = .ok (.aload_n 0, 1) := by decide +kernel
theorem dX8_inverse_33 : decode cX8_inverse 33 = .ok (.getfield 22, 3) := by decide +kernel
theorem dX8_inverse_36 : decode cX8_inverse 36 = .ok (.invokestatic 130, 3) := by decide +kernel
theorem dX8_inverse_39 : decode cX8_inverse 39 = .ok (.aload_n 0, 1) := by decide +kernel
theorem dX8_inverse_40 : decode cX8_inverse 40 = .ok (.aload_n 0, 1) := by decide +kernel
theorem dX8_inverse_41 : decode cX8_inverse 41 = .ok (.getfield 22, 3) := by decide +kernel
theorem dX8_inverse_44 : decode cX8_inverse 44 = .ok (.invokevirtual 213, 3) := by decide +kernel
theorem dX8_inverse_47 : decode cX8_inverse 47 = .ok (.lreturn, 1) := by decide +kernel
theorem dX8_powers_0 : decode cX8_powers 0 = .ok (.aload_n 3, 1) := by decide +kernel
theorem dX8_powers_1 : decode cX8_powers 1 = .ok (.invokestatic 96, 3) := by decide +kernel
theorem dX8_powers_4 : decode cX8_powers 4 = .ok (.iconst 0, 1) := by decide +kernel
theorem dX8_powers_5 : decode cX8_powers 5 = .ok (.istore 4, 2) := by decide +kernel
theorem dX8_powers_7 : decode cX8_powers 7 = .ok (.iload 4, 2) := by decide +kernel
theorem dX8_powers_9 : decode cX8_powers 9 = .ok (.iload_n 2, 1) := by decide +kernel
theorem dX8_powers_10 : decode cX8_powers 10 = .ok (.if_icmp .ge 35, 3) := by decide +kernel
theorem dX8_powers_13 : decode cX8_powers 13 = .ok (.iconst 0, 1) := by decide +kernel
theorem dX8_powers_14 : decode cX8_powers 14 = .ok (.istore 5, 2) := by decide +kernel
theorem dX8_powers_16 : decode cX8_powers 16 = .ok (.iload 5, 2) := by decide +kernel
theorem dX8_powers_18 : decode cX8_powers 18 = .ok (.bipush 10, 2) := by decide +kernel
theorem dX8_powers_20 : decode cX8_powers 20 = .ok (.if_icmp .ge 19, 3) := by decide +kernel
theorem dX8_powers_23 : decode cX8_powers 23 = .ok (.aload_n 3, 1) := by decide +kernel
theorem dX8_powers_24 : decode cX8_powers 24 = .ok (.iload 5, 2) := by decide +kernel
theorem dX8_powers_26 : decode cX8_powers 26 = .ok (.aload_n 1, 1) := by decide +kernel
theorem dX8_powers_27 : decode cX8_powers 27 = .ok (.aload_n 3, 1) := by decide +kernel
theorem dX8_powers_28 : decode cX8_powers 28 = .ok (.iload 5, 2) := by decide +kernel
theorem dX8_powers_30 : decode cX8_powers 30 = .ok (.iaload, 1) := by decide +kernel
theorem dX8_powers_31 : decode cX8_powers 31 = .ok (.iaload, 1) := by decide +kernel
theorem dX8_powers_32 : decode cX8_powers 32 = .ok (.iastore, 1) := by decide +kernel
theorem dX8_powers_33 : decode cX8_powers 33 = .ok (.iinc 5 1, 3) := by decide +kernel
theorem dX8_powers_36 : decode cX8_powers 36 = .ok (.goto (-20), 3) := by decide +kernel
theorem dX8_powers_39 : decode cX8_powers 39 = .ok (.iinc 4 1, 3) := by decide +kernel
theorem dX8_powers_42 : decode cX8_powers 42 = .ok (.goto (-35), 3) := by decide +kernel
theorem dX8_powers_45 : decode cX8_powers 45 = .ok (.return_, 1) := by decide +kernel
theorem dX8_power_0 : decode cX8_power 0 = .ok (.aload_n 0, 1) := by decide +kernel
theorem dX8_power_1 : decode cX8_power 1 = .ok (.aload_n 0, 1) := by decide +kernel
theorem dX8_power_2 : decode cX8_power 2 = .ok (.lload_n 1, 1) := by decide +kernel
theorem dX8_power_3 : decode cX8_power 3 = .ok (.aload_n 0, 1) := by decide +kernel
theorem dX8_power_4 : decode cX8_power 4 = .ok (.getfield 16, 3) := by decide +kernel
theorem dX8_power_7 : decode cX8_power 7 = .ok (.invokevirtual 217, 3) := by decide +kernel
theorem dX8_power_10 : decode cX8_power 10 = .ok (.ifCond .eq 21, 3) := by decide +kernel
theorem dX8_power_13 : decode cX8_power 13 = .ok (.iload_n 3, 1) := by decide +kernel
theorem dX8_power_14 : decode cX8_power 14 = .ok (.i2l, 1) := by decide +kernel
theorem dX8_power_15 : decode cX8_power 15 = .ok (.ldc2_w 228, 3) := by decide +kernel
theorem dX8_power_18 : decode cX8_power 18 = .ok (.ldc2_w 230, 3) := by decide +kernel
theorem dX8_power_21 : decode cX8_power 21 = .ok (.invokestatic 114, 3) := by decide +kernel
theorem dX8_power_24 : decode cX8_power 24 = .ok (.ifCond .eq 7, 3) := by decide +kernel
theorem dX8_power_27 : decode cX8_power 27 = .ok (.iconst 0, 1) := by decide +kernel
theorem dX8_power_28 : decode cX8_power 28 = .ok (.goto 4, 3) := by decide +kernel
theorem dX8_power_31 : decode cX8_power 31 = .ok (.iconst 1, 1) := by decide +kernel
theorem dX8_power_32 : decode cX8_power 32 = .ok (.invokevirtual 194, 3) := by decide +kernel
theorem dX8_power_35 : decode cX8_power 35 = .ok (.ifCond .ne 7, 3) := by decide +kernel
theorem dX8_power_38 : decode cX8_power 38 = .ok (.ldc2_w 208, 3) := by decide +kernel
theorem dX8_power_41 : decode cX8_power 41 = .ok (.lreturn, 1) := by decide +kernel
theorem dX8_power_42 : decode cX8_power 42 = .ok (.aload_n 0, 1) := by decide +kernel
theorem dX8_power_43 : decode cX8_power 43 = .ok (.getfield 16, 3) := by decide +kernel
theorem dX8_power_46 : decode cX8_power 46 = .ok (.aload_n 0, 1) := by decide +kernel
theorem dX8_power_47 : decode cX8_power 47 = .ok (.getfield 19, 3) := by decide +kernel
theorem dX8_power_50 : decode cX8_power 50 = .ok (.invokestatic 130, 3) := by decide +kernel
theorem dX8_power_53 : decode cX8_power 53 = .ok (.iload_n 3, 1) := by decide +kernel
theorem dX8_power_54 : decode cX8_power 54 = .ok (.ifCond .ge 20, 3) := by decide +kernel
theorem dX8_power_57 : decode cX8_power 57 = .ok (.aload_n 0, 1) := by decide +kernel
theorem dX8_power_58 : decode cX8_power 58 = .ok (.aload_n 0, 1) := by decide +kernel
theorem dX8_power_59 : decode cX8_power 59 = .ok (.getfield 19, 3) := by decide +kernel
theorem dX8_power_62 : decode cX8_power 62 = .ok (.iload_n 3, 1) := by decide +kernel
theorem dX8_power_63 : decode cX8_power 63 = .ok (.ineg, 1) := by decide +kernel
theorem dX8_power_64 : decode cX8_power 64 = .ok (.aload_n 0, 1) := by decide +kernel
theorem dX8_power_65 : decode cX8_power 65 = .ok (.getfield 22, 3) := by decide +kernel
theorem dX8_power_68 : decode cX8_power 68 = .ok (.invokevirtual 232, 3) := by decide +kernel
theorem dX8_power_71 : decode cX8_power 71 = .ok (.goto 16, 3) := by decide +kernel
theorem dX8_power_74 : decode cX8_power 74 = .ok (.aload_n 0, 1) := by decide +kernel
theorem dX8_power_75 : decode cX8_power 75 = .ok (.aload_n 0, 1) := by decide +kernel
theorem dX8_power_76 : decode cX8_power 76 = .ok (.getfield 16, 3) := by decide +kernel
theorem dX8_power_79 : decode cX8_power 79 = .ok (.iload_n 3, 1) := by decide +kernel
theorem dX8_power_80 : decode cX8_power 80 = .ok (.aload_n 0, 1) := by decide +kernel
theorem dX8_power_81 : decode cX8_power 81 = .ok (.getfield 22, 3) := by decide +kernel
theorem dX8_power_84 : decode cX8_power 84 = .ok (.invokevirtual 232, 3) := by decide +kernel
theorem dX8_power_87 : decode cX8_power 87 = .ok (.aload_n 0, 1) := by decide +kernel
theorem dX8_power_88 : decode cX8_power 88 = .ok (.aload_n 0, 1) := by decide +kernel
theorem dX8_power_89 : decode cX8_power 89 = .ok (.getfield 22, 3) := by decide +kernel
theorem dX8_power_92 : decode cX8_power 92 = .ok (.invokevirtual 213, 3) := by decide +kernel
theorem dX8_power_95 : decode cX8_power 95 = .ok (.lreturn, 1) := by decide +kernel
theorem dX8_cycleFrom_0 : decode cX8_cycleFrom 0 = .ok (.iconst 1, 1) := by decide +kernel
theorem dX8_cycleFrom_1 : decode cX8_cycleFrom 1 = .ok (.istore_n 2, 1) := by decide +kernel
theorem dX8_cycleFrom_2 : decode cX8_cycleFrom 2 = .ok (.aload_n 0, 1) := by decide +kernel
theorem dX8_cycleFrom_3 : decode cX8_cycleFrom 3 = .ok (.iload_n 1, 1) := by decide +kernel
theorem dX8_cycleFrom_4 : decode cX8_cycleFrom 4 = .ok (.iaload, 1) := by decide +kernel
theorem dX8_cycleFrom_5 : decode cX8_cycleFrom 5 = .ok (.istore_n 3, 1) := by decide +kernel
theorem dX8_cycleFrom_6 : decode cX8_cycleFrom 6 = .ok (.iload_n 3, 1) := by decide +kernel
theorem dX8_cycleFrom_7 : decode cX8_cycleFrom 7 = .ok (.iload_n 1, 1) := by decide +kernel
theorem dX8_cycleFrom_8 : decode cX8_cycleFrom 8 = .ok (.if_icmp .eq 20, 3) := by decide +kernel
theorem dX8_cycleFrom_11 : decode cX8_cycleFrom 11 = .ok (.iload_n 3, 1) := by decide +kernel
theorem dX8_cycleFrom_12 : decode cX8_cycleFrom 12 = .ok (.iload_n 1, 1) := by decide +kernel
theorem dX8_cycleFrom_13 : decode cX8_cycleFrom 13 = .ok (.if_icmp .ge 5, 3) := by decide +kernel
theorem dX8_cycleFrom_16 : decode cX8_cycleFrom 16 = .ok (.iconst 0, 1) := by decide +kernel
theorem dX8_cycleFrom_17 : decode cX8_cycleFrom 17 = .ok (.ireturn, 1) := by decide +kernel
theorem dX8_cycleFrom_18 : decode cX8_cycleFrom 18 = .ok (.iinc 2 1, 3) := by decide +kernel
theorem dX8_cycleFrom_21 : decode cX8_cycleFrom 21 = .ok (.aload_n 0, 1) := by decide +kernel
theorem dX8_cycleFrom_22 : decode cX8_cycleFrom 22 = .ok (.iload_n 3, 1) := by decide +kernel
theorem dX8_cycleFrom_23 : decode cX8_cycleFrom 23 = .ok (.iaload, 1) := by decide +kernel
theorem dX8_cycleFrom_24 : decode cX8_cycleFrom 24 = .ok (.istore_n 3, 1) := by decide +kernel
theorem dX8_cycleFrom_25 : decode cX8_cycleFrom 25 = .ok (.goto (-19), 3) := by decide +kernel
theorem dX8_cycleFrom_28 : decode cX8_cycleFrom 28 = .ok (.iload_n 2, 1) := by decide +kernel
theorem dX8_cycleFrom_29 : decode cX8_cycleFrom 29 = .ok (.ireturn, 1) := by decide +kernel
theorem dX8_cycles_0 : decode cX8_cycles 0 = .ok (.iconst 0, 1) := by decide +kernel
theorem dX8_cycles_1 : decode cX8_cycles 1 = .ok (.istore_n 2, 1) := by decide +kernel
theorem dX8_cycles_2 : decode cX8_cycles 2 = .ok (.iconst 0, 1) := by decide +kernel
theorem dX8_cycles_3 : decode cX8_cycles 3 = .ok (.istore_n 3, 1) := by decide +kernel
theorem dX8_cycles_4 : decode cX8_cycles 4 = .ok (.iload_n 3, 1) := by decide +kernel
theorem dX8_cycles_5 : decode cX8_cycles 5 = .ok (.aload_n 0, 1) := by decide +kernel
theorem dX8_cycles_6 : decode cX8_cycles 6 = .ok (.getfield 118, 3) := by decide +kernel
theorem dX8_cycles_9 : decode cX8_cycles 9 = .ok (.if_icmp .ge 25, 3) := by decide +kernel
theorem dX8_cycles_12 : decode cX8_cycles 12 = .ok (.iload_n 2, 1) := by decide +kernel
theorem dX8_cycles_13 : decode cX8_cycles 13 = .ok (.aload_n 1, 1) := by decide +kernel
theorem dX8_cycles_14 : decode cX8_cycles 14 = .ok (.iload_n 3, 1) := by decide +kernel
theorem dX8_cycles_15 : decode cX8_cycles 15 = .ok (.invokestatic 236, 3) := by decide +kernel
theorem dX8_cycles_18 : decode cX8_cycles 18 = .ok (.ifCond .le 7, 3) := by decide +kernel
theorem dX8_cycles_21 : decode cX8_cycles 21 = .ok (.iconst 1, 1) := by decide +kernel
theorem dX8_cycles_22 : decode cX8_cycles 22 = .ok (.goto 4, 3) := by decide +kernel
theorem dX8_cycles_25 : decode cX8_cycles 25 = .ok (.iconst 0, 1) := by decide +kernel
theorem dX8_cycles_26 : decode cX8_cycles 26 = .ok (.iadd, 1) := by decide +kernel
theorem dX8_cycles_27 : decode cX8_cycles 27 = .ok (.istore_n 2, 1) := by decide +kernel
theorem dX8_cycles_28 : decode cX8_cycles 28 = .ok (.iinc 3 1, 3) := by decide +kernel
theorem dX8_cycles_31 : decode cX8_cycles 31 = .ok (.goto (-27), 3) := by decide +kernel
theorem dX8_cycles_34 : decode cX8_cycles 34 = .ok (.iload_n 2, 1) := by decide +kernel
theorem dX8_cycles_35 : decode cX8_cycles 35 = .ok (.ireturn, 1) := by decide +kernel
theorem dX8_staying_0 : decode cX8_staying 0 = .ok (.iconst 0, 1) := by decide +kernel
theorem dX8_staying_1 : decode cX8_staying 1 = .ok (.istore_n 2, 1) := by decide +kernel
theorem dX8_staying_2 : decode cX8_staying 2 = .ok (.iconst 0, 1) := by decide +kernel
theorem dX8_staying_3 : decode cX8_staying 3 = .ok (.istore_n 3, 1) := by decide +kernel
theorem dX8_staying_4 : decode cX8_staying 4 = .ok (.iload_n 3, 1) := by decide +kernel
theorem dX8_staying_5 : decode cX8_staying 5 = .ok (.aload_n 0, 1) := by decide +kernel
theorem dX8_staying_6 : decode cX8_staying 6 = .ok (.getfield 118, 3) := by decide +kernel
theorem dX8_staying_9 : decode cX8_staying 9 = .ok (.if_icmp .ge 24, 3) := by decide +kernel
theorem dX8_staying_12 : decode cX8_staying 12 = .ok (.iload_n 2, 1) := by decide +kernel
theorem dX8_staying_13 : decode cX8_staying 13 = .ok (.aload_n 1, 1) := by decide +kernel
theorem dX8_staying_14 : decode cX8_staying 14 = .ok (.iload_n 3, 1) := by decide +kernel
theorem dX8_staying_15 : decode cX8_staying 15 = .ok (.iaload, 1) := by decide +kernel
theorem dX8_staying_16 : decode cX8_staying 16 = .ok (.iload_n 3, 1) := by decide +kernel
theorem dX8_staying_17 : decode cX8_staying 17 = .ok (.if_icmp .ne 7, 3) := by decide +kernel
theorem dX8_staying_20 : decode cX8_staying 20 = .ok (.iconst 1, 1) := by decide +kernel
theorem dX8_staying_21 : decode cX8_staying 21 = .ok (.goto 4, 3) := by decide +kernel
theorem dX8_staying_24 : decode cX8_staying 24 = .ok (.iconst 0, 1) := by decide +kernel
theorem dX8_staying_25 : decode cX8_staying 25 = .ok (.iadd, 1) := by decide +kernel
theorem dX8_staying_26 : decode cX8_staying 26 = .ok (.istore_n 2, 1) := by decide +kernel
theorem dX8_staying_27 : decode cX8_staying 27 = .ok (.iinc 3 1, 3) := by decide +kernel
theorem dX8_staying_30 : decode cX8_staying 30 = .ok (.goto (-26), 3) := by decide +kernel
theorem dX8_staying_33 : decode cX8_staying 33 = .ok (.iload_n 2, 1) := by decide +kernel
theorem dX8_staying_34 : decode cX8_staying 34 = .ok (.ireturn, 1) := by decide +kernel
theorem dX8_orderOf__0 : decode cX8_orderOf_ 0 = .ok (.iconst 1, 1) := by decide +kernel
theorem dX8_orderOf__1 : decode cX8_orderOf_ 1 = .ok (.istore_n 2, 1) := by decide +kernel
theorem dX8_orderOf__2 : decode cX8_orderOf_ 2 = .ok (.iconst 0, 1) := by decide +kernel
theorem dX8_orderOf__3 : decode cX8_orderOf_ 3 = .ok (.istore_n 3, 1) := by decide +kernel
theorem dX8_orderOf__4 : decode cX8_orderOf_ 4 = .ok (.iload_n 3, 1) := by decide +kernel
theorem dX8_orderOf__5 : decode cX8_orderOf_ 5 = .ok (.aload_n 0, 1) := by decide +kernel
theorem dX8_orderOf__6 : decode cX8_orderOf_ 6 = .ok (.getfield 118, 3) := by decide +kernel
theorem dX8_orderOf__9 : decode cX8_orderOf_ 9 = .ok (.if_icmp .ge 37, 3) := by decide +kernel
theorem dX8_orderOf__12 : decode cX8_orderOf_ 12 = .ok (.aload_n 1, 1) := by decide +kernel
theorem dX8_orderOf__13 : decode cX8_orderOf_ 13 = .ok (.iload_n 3, 1) := by decide +kernel
theorem dX8_orderOf__14 : decode cX8_orderOf_ 14 = .ok (.invokestatic 236, 3) := by decide +kernel
theorem dX8_orderOf__17 : decode cX8_orderOf_ 17 = .ok (.istore 4, 2) := by decide +kernel
theorem dX8_orderOf__19 : decode cX8_orderOf_ 19 = .ok (.iload 4, 2) := by decide +kernel
theorem dX8_orderOf__21 : decode cX8_orderOf_ 21 = .ok (.ifCond .ne 7, 3) := by decide +kernel
theorem dX8_orderOf__24 : decode cX8_orderOf_ 24 = .ok (.iload_n 2, 1) := by decide +kernel
theorem dX8_orderOf__25 : decode cX8_orderOf_ 25 = .ok (.goto 14, 3) := by decide +kernel
theorem dX8_orderOf__28 : decode cX8_orderOf_ 28 = .ok (.iload_n 2, 1) := by decide +kernel
theorem dX8_orderOf__29 : decode cX8_orderOf_ 29 = .ok (.iload_n 2, 1) := by decide +kernel
theorem dX8_orderOf__30 : decode cX8_orderOf_ 30 = .ok (.iload 4, 2) := by decide +kernel
theorem dX8_orderOf__32 : decode cX8_orderOf_ 32 = .ok (.invokestatic 240, 3) := by decide +kernel
theorem dX8_orderOf__35 : decode cX8_orderOf_ 35 = .ok (.idiv, 1) := by decide +kernel
theorem dX8_orderOf__36 : decode cX8_orderOf_ 36 = .ok (.iload 4, 2) := by decide +kernel
theorem dX8_orderOf__38 : decode cX8_orderOf_ 38 = .ok (.imul, 1) := by decide +kernel
theorem dX8_orderOf__39 : decode cX8_orderOf_ 39 = .ok (.istore_n 2, 1) := by decide +kernel
theorem dX8_orderOf__40 : decode cX8_orderOf_ 40 = .ok (.iinc 3 1, 3) := by decide +kernel
theorem dX8_orderOf__43 : decode cX8_orderOf_ 43 = .ok (.goto (-39), 3) := by decide +kernel
theorem dX8_orderOf__46 : decode cX8_orderOf_ 46 = .ok (.iload_n 2, 1) := by decide +kernel
theorem dX8_orderOf__47 : decode cX8_orderOf_ 47 = .ok (.ireturn, 1) := by decide +kernel
theorem dX8_isEven_0 : decode cX8_isEven 0 = .ok (.aload_n 0, 1) := by decide +kernel
theorem dX8_isEven_1 : decode cX8_isEven 1 = .ok (.getfield 118, 3) := by decide +kernel
theorem dX8_isEven_4 : decode cX8_isEven 4 = .ok (.aload_n 0, 1) := by decide +kernel
theorem dX8_isEven_5 : decode cX8_isEven 5 = .ok (.aload_n 1, 1) := by decide +kernel
theorem dX8_isEven_6 : decode cX8_isEven 6 = .ok (.invokevirtual 243, 3) := by decide +kernel
theorem dX8_isEven_9 : decode cX8_isEven 9 = .ok (.isub, 1) := by decide +kernel
theorem dX8_isEven_10 : decode cX8_isEven 10 = .ok (.iconst 2, 1) := by decide +kernel
theorem dX8_isEven_11 : decode cX8_isEven 11 = .ok (.irem, 1) := by decide +kernel
theorem dX8_isEven_12 : decode cX8_isEven 12 = .ok (.ifCond .ne 7, 3) := by decide +kernel
theorem dX8_isEven_15 : decode cX8_isEven 15 = .ok (.iconst 1, 1) := by decide +kernel
theorem dX8_isEven_16 : decode cX8_isEven 16 = .ok (.goto 4, 3) := by decide +kernel
theorem dX8_isEven_19 : decode cX8_isEven 19 = .ok (.iconst 0, 1) := by decide +kernel
theorem dX8_isEven_20 : decode cX8_isEven 20 = .ok (.ireturn, 1) := by decide +kernel
theorem dX8_about_0 : decode cX8_about 0 = .ok (.aload_n 0, 1) := by decide +kernel
theorem dX8_about_1 : decode cX8_about 1 = .ok (.aload_n 0, 1) := by decide +kernel
theorem dX8_about_2 : decode cX8_about 2 = .ok (.lload_n 1, 1) := by decide +kernel
theorem dX8_about_3 : decode cX8_about 3 = .ok (.aload_n 0, 1) := by decide +kernel
theorem dX8_about_4 : decode cX8_about 4 = .ok (.getfield 16, 3) := by decide +kernel
theorem dX8_about_7 : decode cX8_about 7 = .ok (.invokevirtual 217, 3) := by decide +kernel
theorem dX8_about_10 : decode cX8_about 10 = .ok (.ifCond .eq 19, 3) := by decide +kernel
theorem dX8_about_13 : decode cX8_about 13 = .ok (.iload_n 3, 1) := by decide +kernel
theorem dX8_about_14 : decode cX8_about 14 = .ok (.i2l, 1) := by decide +kernel
theorem dX8_about_15 : decode cX8_about 15 = .ok (.lconst 0, 1) := by decide +kernel
theorem dX8_about_16 : decode cX8_about 16 = .ok (.ldc2_w 247, 3) := by decide +kernel
theorem dX8_about_19 : decode cX8_about 19 = .ok (.invokestatic 114, 3) := by decide +kernel
theorem dX8_about_22 : decode cX8_about 22 = .ok (.ifCond .eq 7, 3) := by decide +kernel
theorem dX8_about_25 : decode cX8_about 25 = .ok (.iconst 0, 1) := by decide +kernel
theorem dX8_about_26 : decode cX8_about 26 = .ok (.goto 4, 3) := by decide +kernel
theorem dX8_about_29 : decode cX8_about 29 = .ok (.iconst 1, 1) := by decide +kernel
theorem dX8_about_30 : decode cX8_about 30 = .ok (.invokevirtual 194, 3) := by decide +kernel
theorem dX8_about_33 : decode cX8_about 33 = .ok (.ifCond .ne 5, 3) := by decide +kernel
theorem dX8_about_36 : decode cX8_about 36 = .ok (.iconst (-1), 1) := by decide +kernel
theorem dX8_about_37 : decode cX8_about 37 = .ok (.ireturn, 1) := by decide +kernel
theorem dX8_about_38 : decode cX8_about 38 = .ok (.iload_n 3, 1) := by decide +kernel
theorem dX8_about_39 : decode cX8_about 39 = .ok (.iconst 3, 1) := by decide +kernel
theorem dX8_about_40 : decode cX8_about 40 = .ok (.if_icmp .ge 43, 3) := by decide +kernel
theorem dX8_about_43 : decode cX8_about 43 = .ok (.iload_n 3, 1) := by decide +kernel
theorem dX8_about_44 : decode cX8_about 44 = .ok (.ifCond .ne 14, 3) := by decide +kernel
theorem dX8_about_47 : decode cX8_about 47 = .ok (.aload_n 0, 1) := by decide +kernel
theorem dX8_about_48 : decode cX8_about 48 = .ok (.aload_n 0, 1) := by decide +kernel
theorem dX8_about_49 : decode cX8_about 49 = .ok (.getfield 16, 3) := by decide +kernel
theorem dX8_about_52 : decode cX8_about 52 = .ok (.invokevirtual 249, 3) := by decide +kernel
theorem dX8_about_55 : decode cX8_about 55 = .ok (.goto 27, 3) := by decide +kernel
theorem dX8_about_58 : decode cX8_about 58 = .ok (.iload_n 3, 1) := by decide +kernel
theorem dX8_about_59 : decode cX8_about 59 = .ok (.iconst 1, 1) := by decide +kernel
theorem dX8_about_60 : decode cX8_about 60 = .ok (.if_icmp .ne 14, 3) := by decide +kernel
theorem dX8_about_63 : decode cX8_about 63 = .ok (.aload_n 0, 1) := by decide +kernel
theorem dX8_about_64 : decode cX8_about 64 = .ok (.aload_n 0, 1) := by decide +kernel
theorem dX8_about_65 : decode cX8_about 65 = .ok (.getfield 16, 3) := by decide +kernel
theorem dX8_about_68 : decode cX8_about 68 = .ok (.invokevirtual 243, 3) := by decide +kernel
theorem dX8_about_71 : decode cX8_about 71 = .ok (.goto 11, 3) := by decide +kernel
theorem dX8_about_74 : decode cX8_about 74 = .ok (.aload_n 0, 1) := by decide +kernel
theorem dX8_about_75 : decode cX8_about 75 = .ok (.aload_n 0, 1) := by decide +kernel
theorem dX8_about_76 : decode cX8_about 76 = .ok (.getfield 16, 3) := by decide +kernel
theorem dX8_about_79 : decode cX8_about 79 = .ok (.invokevirtual 251, 3) := by decide +kernel
theorem dX8_about_82 : decode cX8_about 82 = .ok (.ireturn, 1) := by decide +kernel
theorem dX8_about_83 : decode cX8_about 83 = .ok (.iload_n 3, 1) := by decide +kernel
theorem dX8_about_84 : decode cX8_about 84 = .ok (.iconst 3, 1) := by decide +kernel
theorem dX8_about_85 : decode cX8_about 85 = .ok (.if_icmp .ne 20, 3) := by decide +kernel
theorem dX8_about_88 : decode cX8_about 88 = .ok (.aload_n 0, 1) := by decide +kernel
theorem dX8_about_89 : decode cX8_about 89 = .ok (.aload_n 0, 1) := by decide +kernel
theorem dX8_about_90 : decode cX8_about 90 = .ok (.getfield 16, 3) := by decide +kernel
theorem dX8_about_93 : decode cX8_about 93 = .ok (.invokevirtual 254, 3) := by decide +kernel
theorem dX8_about_96 : decode cX8_about 96 = .ok (.ifCond .eq 7, 3) := by decide +kernel
theorem dX8_about_99 : decode cX8_about 99 = .ok (.iconst 1, 1) := by decide +kernel
theorem dX8_about_100 : decode cX8_about 100 = .ok (.goto 4, 3) := by decide +kernel
theorem dX8_about_103 : decode cX8_about 103 = .ok (.iconst 0, 1) := by decide +kernel
theorem dX8_about_104 : decode cX8_about 104 = .ok (.ireturn, 1) := by decide +kernel
theorem dX8_about_105 : decode cX8_about 105 = .ok (.iconst 0, 1) := by decide +kernel
theorem dX8_about_106 : decode cX8_about 106 = .ok (.istore 4, 2) := by decide +kernel
theorem dX8_about_108 : decode cX8_about 108 = .ok (.iconst 0, 1) := by decide +kernel
theorem dX8_about_109 : decode cX8_about 109 = .ok (.istore 5, 2) := by decide +kernel
theorem dX8_about_111 : decode cX8_about 111 = .ok (.iload 5, 2) := by decide +kernel
theorem dX8_about_113 : decode cX8_about 113 = .ok (.aload_n 0, 1) := by decide +kernel
theorem dX8_about_114 : decode cX8_about 114 = .ok (.getfield 118, 3) := by decide +kernel
theorem dX8_about_117 : decode cX8_about 117 = .ok (.if_icmp .ge 34, 3) := by decide +kernel
theorem dX8_about_120 : decode cX8_about 120 = .ok (.iload 4, 2) := by decide +kernel
theorem dX8_about_122 : decode cX8_about 122 = .ok (.aload_n 0, 1) := by decide +kernel
theorem dX8_about_123 : decode cX8_about 123 = .ok (.getfield 16, 3) := by decide +kernel
theorem dX8_about_126 : decode cX8_about 126 = .ok (.iload 5, 2) := by decide +kernel
theorem dX8_about_128 : decode cX8_about 128 = .ok (.iaload, 1) := by decide +kernel
theorem dX8_about_129 : decode cX8_about 129 = .ok (.iload 5, 2) := by decide +kernel
theorem dX8_about_131 : decode cX8_about 131 = .ok (.if_icmp .ne 7, 3) := by decide +kernel
theorem dX8_about_134 : decode cX8_about 134 = .ok (.iconst 0, 1) := by decide +kernel
theorem dX8_about_135 : decode cX8_about 135 = .ok (.goto 7, 3) := by decide +kernel
theorem dX8_about_138 : decode cX8_about 138 = .ok (.iconst 1, 1) := by decide +kernel
theorem dX8_about_139 : decode cX8_about 139 = .ok (.iload 5, 2) := by decide +kernel
theorem dX8_about_141 : decode cX8_about 141 = .ok (.ishl, 1) := by decide +kernel
theorem dX8_about_142 : decode cX8_about 142 = .ok (.ior, 1) := by decide +kernel
theorem dX8_about_143 : decode cX8_about 143 = .ok (.istore 4, 2) := by decide +kernel
theorem dX8_about_145 : decode cX8_about 145 = .ok (.iinc 5 1, 3) := by decide +kernel
theorem dX8_about_148 : decode cX8_about 148 = .ok (.goto (-37), 3) := by decide +kernel
theorem dX8_about_151 : decode cX8_about 151 = .ok (.iload 4, 2) := by decide +kernel
theorem dX8_about_153 : decode cX8_about 153 = .ok (.ireturn, 1) := by decide +kernel
theorem dX8_orbitOf_0 : decode cX8_orbitOf 0 = .ok (.iconst 1, 1) := by decide +kernel
theorem dX8_orbitOf_1 : decode cX8_orbitOf 1 = .ok (.iload_n 1, 1) := by decide +kernel
theorem dX8_orbitOf_2 : decode cX8_orbitOf 2 = .ok (.ishl, 1) := by decide +kernel
theorem dX8_orbitOf_3 : decode cX8_orbitOf 3 = .ok (.istore_n 2, 1) := by decide +kernel
theorem dX8_orbitOf_4 : decode cX8_orbitOf 4 = .ok (.iconst 0, 1) := by decide +kernel
theorem dX8_orbitOf_5 : decode cX8_orbitOf 5 = .ok (.istore_n 3, 1) := by decide +kernel
theorem dX8_orbitOf_6 : decode cX8_orbitOf 6 = .ok (.iload_n 3, 1) := by decide +kernel
theorem dX8_orbitOf_7 : decode cX8_orbitOf 7 = .ok (.aload_n 0, 1) := by decide +kernel
theorem dX8_orbitOf_8 : decode cX8_orbitOf 8 = .ok (.getfield 118, 3) := by decide +kernel
theorem dX8_orbitOf_11 : decode cX8_orbitOf 11 = .ok (.if_icmp .ge 79, 3) := by decide +kernel
theorem dX8_orbitOf_14 : decode cX8_orbitOf 14 = .ok (.iconst 0, 1) := by decide +kernel
theorem dX8_orbitOf_15 : decode cX8_orbitOf 15 = .ok (.istore 4, 2) := by decide +kernel
theorem dX8_orbitOf_17 : decode cX8_orbitOf 17 = .ok (.iload 4, 2) := by decide +kernel
theorem dX8_orbitOf_19 : decode cX8_orbitOf 19 = .ok (.aload_n 0, 1) := by decide +kernel
theorem dX8_orbitOf_20 : decode cX8_orbitOf 20 = .ok (.invokevirtual 110, 3) := by decide +kernel
theorem dX8_orbitOf_23 : decode cX8_orbitOf 23 = .ok (.if_icmp .ge 61, 3) := by decide +kernel
theorem dX8_orbitOf_26 : decode cX8_orbitOf 26 = .ok (.iconst 0, 1) := by decide +kernel
theorem dX8_orbitOf_27 : decode cX8_orbitOf 27 = .ok (.istore 5, 2) := by decide +kernel
theorem dX8_orbitOf_29 : decode cX8_orbitOf 29 = .ok (.iload 5, 2) := by decide +kernel
theorem dX8_orbitOf_31 : decode cX8_orbitOf 31 = .ok (.aload_n 0, 1) := by decide +kernel
theorem dX8_orbitOf_32 : decode cX8_orbitOf 32 = .ok (.getfield 118, 3) := by decide +kernel
theorem dX8_orbitOf_35 : decode cX8_orbitOf 35 = .ok (.if_icmp .ge 43, 3) := by decide +kernel
theorem dX8_orbitOf_38 : decode cX8_orbitOf 38 = .ok (.iload_n 2, 1) := by decide +kernel
theorem dX8_orbitOf_39 : decode cX8_orbitOf 39 = .ok (.iload_n 2, 1) := by decide +kernel
theorem dX8_orbitOf_40 : decode cX8_orbitOf 40 = .ok (.iload 5, 2) := by decide +kernel
theorem dX8_orbitOf_42 : decode cX8_orbitOf 42 = .ok (.invokestatic 157, 3) := by decide +kernel
theorem dX8_orbitOf_45 : decode cX8_orbitOf 45 = .ok (.ifCond .eq 24, 3) := by decide +kernel
theorem dX8_orbitOf_48 : decode cX8_orbitOf 48 = .ok (.iconst 1, 1) := by decide +kernel
theorem dX8_orbitOf_49 : decode cX8_orbitOf 49 = .ok (.aload_n 0, 1) := by decide +kernel
theorem dX8_orbitOf_50 : decode cX8_orbitOf 50 = .ok (.getfield 7, 3) := by decide +kernel
theorem dX8_orbitOf_53 : decode cX8_orbitOf 53 = .ok (.bipush 11, 2) := by decide +kernel
theorem dX8_orbitOf_55 : decode cX8_orbitOf 55 = .ok (.bipush 10, 2) := by decide +kernel
theorem dX8_orbitOf_57 : decode cX8_orbitOf 57 = .ok (.iload 4, 2) := by decide +kernel
theorem dX8_orbitOf_59 : decode cX8_orbitOf 59 = .ok (.imul, 1) := by decide +kernel
theorem dX8_orbitOf_60 : decode cX8_orbitOf 60 = .ok (.iadd, 1) := by decide +kernel
theorem dX8_orbitOf_61 : decode cX8_orbitOf 61 = .ok (.iload 5, 2) := by decide +kernel
theorem dX8_orbitOf_63 : decode cX8_orbitOf 63 = .ok (.iadd, 1) := by decide +kernel
theorem dX8_orbitOf_64 : decode cX8_orbitOf 64 = .ok (.iaload, 1) := by decide +kernel
theorem dX8_orbitOf_65 : decode cX8_orbitOf 65 = .ok (.ishl, 1) := by decide +kernel
theorem dX8_orbitOf_66 : decode cX8_orbitOf 66 = .ok (.goto 4, 3) := by decide +kernel
theorem dX8_orbitOf_69 : decode cX8_orbitOf 69 = .ok (.iconst 0, 1) := by decide +kernel
theorem dX8_orbitOf_70 : decode cX8_orbitOf 70 = .ok (.ior, 1) := by decide +kernel
theorem dX8_orbitOf_71 : decode cX8_orbitOf 71 = .ok (.istore_n 2, 1) := by decide +kernel
theorem dX8_orbitOf_72 : decode cX8_orbitOf 72 = .ok (.iinc 5 1, 3) := by decide +kernel
theorem dX8_orbitOf_75 : decode cX8_orbitOf 75 = .ok (.goto (-46), 3) := by decide +kernel
theorem dX8_orbitOf_78 : decode cX8_orbitOf 78 = .ok (.iinc 4 1, 3) := by decide +kernel
theorem dX8_orbitOf_81 : decode cX8_orbitOf 81 = .ok (.goto (-64), 3) := by decide +kernel
theorem dX8_orbitOf_84 : decode cX8_orbitOf 84 = .ok (.iinc 3 1, 3) := by decide +kernel
theorem dX8_orbitOf_87 : decode cX8_orbitOf 87 = .ok (.goto (-81), 3) := by decide +kernel
theorem dX8_orbitOf_90 : decode cX8_orbitOf 90 = .ok (.iload_n 2, 1) := by decide +kernel
theorem dX8_orbitOf_91 : decode cX8_orbitOf 91 = .ok (.ireturn, 1) := by decide +kernel
theorem dX8_orbit_0 : decode cX8_orbit 0 = .ok (.aload_n 0, 1) := by decide +kernel
theorem dX8_orbit_1 : decode cX8_orbit 1 = .ok (.aload_n 0, 1) := by decide +kernel
theorem dX8_orbit_2 : decode cX8_orbit 2 = .ok (.iload_n 1, 1) := by decide +kernel
theorem dX8_orbit_3 : decode cX8_orbit 3 = .ok (.invokevirtual 221, 3) := by decide +kernel
theorem dX8_orbit_6 : decode cX8_orbit 6 = .ok (.ifCond .eq 7, 3) := by decide +kernel
theorem dX8_orbit_9 : decode cX8_orbit 9 = .ok (.iconst 0, 1) := by decide +kernel
theorem dX8_orbit_10 : decode cX8_orbit 10 = .ok (.goto 4, 3) := by decide +kernel
theorem dX8_orbit_13 : decode cX8_orbit 13 = .ok (.iconst 2, 1) := by decide +kernel
theorem dX8_orbit_14 : decode cX8_orbit 14 = .ok (.invokevirtual 194, 3) := by decide +kernel
theorem dX8_orbit_17 : decode cX8_orbit 17 = .ok (.ifCond .eq 11, 3) := by decide +kernel
theorem dX8_orbit_20 : decode cX8_orbit 20 = .ok (.aload_n 0, 1) := by decide +kernel
theorem dX8_orbit_21 : decode cX8_orbit 21 = .ok (.iload_n 1, 1) := by decide +kernel
theorem dX8_orbit_22 : decode cX8_orbit 22 = .ok (.invokevirtual 257, 3) := by decide +kernel
theorem dX8_orbit_25 : decode cX8_orbit 25 = .ok (.goto 4, 3) := by decide +kernel
theorem dX8_orbit_28 : decode cX8_orbit 28 = .ok (.iconst (-1), 1) := by decide +kernel
theorem dX8_orbit_29 : decode cX8_orbit 29 = .ok (.ireturn, 1) := by decide +kernel
theorem dX8_orbits_0 : decode cX8_orbits 0 = .ok (.aload_n 0, 1) := by decide +kernel
theorem dX8_orbits_1 : decode cX8_orbits 1 = .ok (.aload_n 0, 1) := by decide +kernel
theorem dX8_orbits_2 : decode cX8_orbits 2 = .ok (.iconst 0, 1) := by decide +kernel
theorem dX8_orbits_3 : decode cX8_orbits 3 = .ok (.invokevirtual 260, 3) := by decide +kernel
theorem dX8_orbits_6 : decode cX8_orbits 6 = .ok (.invokevirtual 194, 3) := by decide +kernel
theorem dX8_orbits_9 : decode cX8_orbits 9 = .ok (.ifCond .ne 5, 3) := by decide +kernel
theorem dX8_orbits_12 : decode cX8_orbits 12 = .ok (.iconst (-1), 1) := by decide +kernel
theorem dX8_orbits_13 : decode cX8_orbits 13 = .ok (.ireturn, 1) := by decide +kernel
theorem dX8_orbits_14 : decode cX8_orbits 14 = .ok (.iconst 0, 1) := by decide +kernel
theorem dX8_orbits_15 : decode cX8_orbits 15 = .ok (.istore_n 1, 1) := by decide +kernel
theorem dX8_orbits_16 : decode cX8_orbits 16 = .ok (.iconst 0, 1) := by decide +kernel
theorem dX8_orbits_17 : decode cX8_orbits 17 = .ok (.istore_n 2, 1) := by decide +kernel
theorem dX8_orbits_18 : decode cX8_orbits 18 = .ok (.iload_n 2, 1) := by decide +kernel
theorem dX8_orbits_19 : decode cX8_orbits 19 = .ok (.aload_n 0, 1) := by decide +kernel
theorem dX8_orbits_20 : decode cX8_orbits 20 = .ok (.getfield 118, 3) := by decide +kernel
theorem dX8_orbits_23 : decode cX8_orbits 23 = .ok (.if_icmp .ge 31, 3) := by decide +kernel
theorem dX8_orbits_26 : decode cX8_orbits 26 = .ok (.iload_n 1, 1) := by decide +kernel
theorem dX8_orbits_27 : decode cX8_orbits 27 = .ok (.aload_n 0, 1) := by decide +kernel
theorem dX8_orbits_28 : decode cX8_orbits 28 = .ok (.iload_n 2, 1) := by decide +kernel
theorem dX8_orbits_29 : decode cX8_orbits 29 = .ok (.invokevirtual 257, 3) := by decide +kernel
theorem dX8_orbits_32 : decode cX8_orbits 32 = .ok (.iconst 1, 1) := by decide +kernel
theorem dX8_orbits_33 : decode cX8_orbits 33 = .ok (.iload_n 2, 1) := by decide +kernel
theorem dX8_orbits_34 : decode cX8_orbits 34 = .ok (.ishl, 1) := by decide +kernel
theorem dX8_orbits_35 : decode cX8_orbits 35 = .ok (.iconst 1, 1) := by decide +kernel
theorem dX8_orbits_36 : decode cX8_orbits 36 = .ok (.isub, 1) := by decide +kernel
theorem dX8_orbits_37 : decode cX8_orbits 37 = .ok (.iand, 1) := by decide +kernel
theorem dX8_orbits_38 : decode cX8_orbits 38 = .ok (.ifCond .ne 7, 3) := by decide +kernel
theorem dX8_orbits_41 : decode cX8_orbits 41 = .ok (.iconst 1, 1) := by decide +kernel
theorem dX8_orbits_42 : decode cX8_orbits 42 = .ok (.goto 4, 3) := by decide +kernel
theorem dX8_orbits_45 : decode cX8_orbits 45 = .ok (.iconst 0, 1) := by decide +kernel
theorem dX8_orbits_46 : decode cX8_orbits 46 = .ok (.iadd, 1) := by decide +kernel
theorem dX8_orbits_47 : decode cX8_orbits 47 = .ok (.istore_n 1, 1) := by decide +kernel
theorem dX8_orbits_48 : decode cX8_orbits 48 = .ok (.iinc 2 1, 3) := by decide +kernel
theorem dX8_orbits_51 : decode cX8_orbits 51 = .ok (.goto (-33), 3) := by decide +kernel
theorem dX8_orbits_54 : decode cX8_orbits 54 = .ok (.iload_n 1, 1) := by decide +kernel
theorem dX8_orbits_55 : decode cX8_orbits 55 = .ok (.ireturn, 1) := by decide +kernel
theorem dX8_baseAt_0 : decode cX8_baseAt 0 = .ok (.aload_n 0, 1) := by decide +kernel
theorem dX8_baseAt_1 : decode cX8_baseAt 1 = .ok (.invokevirtual 179, 3) := by decide +kernel
theorem dX8_baseAt_4 : decode cX8_baseAt 4 = .ok (.iconst 0, 1) := by decide +kernel
theorem dX8_baseAt_5 : decode cX8_baseAt 5 = .ok (.istore_n 2, 1) := by decide +kernel
theorem dX8_baseAt_6 : decode cX8_baseAt 6 = .ok (.iconst 0, 1) := by decide +kernel
theorem dX8_baseAt_7 : decode cX8_baseAt 7 = .ok (.istore_n 3, 1) := by decide +kernel
theorem dX8_baseAt_8 : decode cX8_baseAt 8 = .ok (.iload_n 3, 1) := by decide +kernel
theorem dX8_baseAt_9 : decode cX8_baseAt 9 = .ok (.aload_n 0, 1) := by decide +kernel
theorem dX8_baseAt_10 : decode cX8_baseAt 10 = .ok (.getfield 118, 3) := by decide +kernel
theorem dX8_baseAt_13 : decode cX8_baseAt 13 = .ok (.if_icmp .ge 32, 3) := by decide +kernel
theorem dX8_baseAt_16 : decode cX8_baseAt 16 = .ok (.aload_n 0, 1) := by decide +kernel
theorem dX8_baseAt_17 : decode cX8_baseAt 17 = .ok (.iconst 0, 1) := by decide +kernel
theorem dX8_baseAt_18 : decode cX8_baseAt 18 = .ok (.iload_n 3, 1) := by decide +kernel
theorem dX8_baseAt_19 : decode cX8_baseAt 19 = .ok (.invokevirtual 164, 3) := by decide +kernel
theorem dX8_baseAt_22 : decode cX8_baseAt 22 = .ok (.iconst 1, 1) := by decide +kernel
theorem dX8_baseAt_23 : decode cX8_baseAt 23 = .ok (.if_icmp .ne 6, 3) := by decide +kernel
theorem dX8_baseAt_26 : decode cX8_baseAt 26 = .ok (.goto 13, 3) := by decide +kernel
theorem dX8_baseAt_29 : decode cX8_baseAt 29 = .ok (.iload_n 2, 1) := by decide +kernel
theorem dX8_baseAt_30 : decode cX8_baseAt 30 = .ok (.iload_n 1, 1) := by decide +kernel
theorem dX8_baseAt_31 : decode cX8_baseAt 31 = .ok (.if_icmp .ne 5, 3) := by decide +kernel
theorem dX8_baseAt_34 : decode cX8_baseAt 34 = .ok (.iload_n 3, 1) := by decide +kernel
theorem dX8_baseAt_35 : decode cX8_baseAt 35 = .ok (.ireturn, 1) := by decide +kernel
theorem dX8_baseAt_36 : decode cX8_baseAt 36 = .ok (.iinc 2 1, 3) := by decide +kernel
theorem dX8_baseAt_39 : decode cX8_baseAt 39 = .ok (.iinc 3 1, 3) := by decide +kernel
theorem dX8_baseAt_42 : decode cX8_baseAt 42 = .ok (.goto (-34), 3) := by decide +kernel
theorem dX8_baseAt_45 : decode cX8_baseAt 45 = .ok (.iconst (-1), 1) := by decide +kernel
theorem dX8_baseAt_46 : decode cX8_baseAt 46 = .ok (.ireturn, 1) := by decide +kernel
theorem dX8_baseMany_0 : decode cX8_baseMany 0 = .ok (.iconst 0, 1) := by decide +kernel
theorem dX8_baseMany_1 : decode cX8_baseMany 1 = .ok (.istore_n 1, 1) := by decide +kernel
theorem dX8_baseMany_2 : decode cX8_baseMany 2 = .ok (.aload_n 0, 1) := by decide +kernel
theorem dX8_baseMany_3 : decode cX8_baseMany 3 = .ok (.iload_n 1, 1) := by decide +kernel
theorem dX8_baseMany_4 : decode cX8_baseMany 4 = .ok (.invokevirtual 263, 3) := by decide +kernel
theorem dX8_baseMany_7 : decode cX8_baseMany 7 = .ok (.iconst (-1), 1) := by decide +kernel
theorem dX8_baseMany_8 : decode cX8_baseMany 8 = .ok (.if_icmp .eq 9, 3) := by decide +kernel
theorem dX8_baseMany_11 : decode cX8_baseMany 11 = .ok (.iinc 1 1, 3) := by decide +kernel
theorem dX8_baseMany_14 : decode cX8_baseMany 14 = .ok (.goto (-12), 3) := by decide +kernel
theorem dX8_baseMany_17 : decode cX8_baseMany 17 = .ok (.iload_n 1, 1) := by decide +kernel
theorem dX8_baseMany_18 : decode cX8_baseMany 18 = .ok (.ireturn, 1) := by decide +kernel
theorem dX8_there_0 : decode cX8_there 0 = .ok (.iload_n 1, 1) := by decide +kernel
theorem dX8_there_1 : decode cX8_there 1 = .ok (.iconst (-1), 1) := by decide +kernel
theorem dX8_there_2 : decode cX8_there 2 = .ok (.if_icmp .ne 11, 3) := by decide +kernel
theorem dX8_there_5 : decode cX8_there 5 = .ok (.aload_n 0, 1) := by decide +kernel
theorem dX8_there_6 : decode cX8_there 6 = .ok (.iconst 5, 1) := by decide +kernel
theorem dX8_there_7 : decode cX8_there 7 = .ok (.invokevirtual 266, 3) := by decide +kernel
theorem dX8_there_10 : decode cX8_there 10 = .ok (.goto 4, 3) := by decide +kernel
theorem dX8_there_13 : decode cX8_there 13 = .ok (.iload_n 1, 1) := by decide +kernel
theorem dX8_there_14 : decode cX8_there 14 = .ok (.ireturn, 1) := by decide +kernel
theorem dX8_base_0 : decode cX8_base 0 = .ok (.aload_n 0, 1) := by decide +kernel
theorem dX8_base_1 : decode cX8_base 1 = .ok (.aload_n 0, 1) := by decide +kernel
theorem dX8_base_2 : decode cX8_base 2 = .ok (.iload_n 1, 1) := by decide +kernel
theorem dX8_base_3 : decode cX8_base 3 = .ok (.iconst (-1), 1) := by decide +kernel
theorem dX8_base_4 : decode cX8_base 4 = .ok (.if_icmp .lt 7, 3) := by decide +kernel
theorem dX8_base_7 : decode cX8_base 7 = .ok (.iconst 0, 1) := by decide +kernel
theorem dX8_base_8 : decode cX8_base 8 = .ok (.goto 4, 3) := by decide +kernel
theorem dX8_base_11 : decode cX8_base 11 = .ok (.iconst 1, 1) := by decide +kernel
theorem dX8_base_12 : decode cX8_base 12 = .ok (.invokevirtual 260, 3) := by decide +kernel
theorem dX8_base_15 : decode cX8_base 15 = .ok (.invokevirtual 194, 3) := by decide +kernel
theorem dX8_base_18 : decode cX8_base 18 = .ok (.ifCond .ne 5, 3) := by decide +kernel
theorem dX8_base_21 : decode cX8_base 21 = .ok (.iconst (-1), 1) := by decide +kernel
theorem dX8_base_22 : decode cX8_base 22 = .ok (.ireturn, 1) := by decide +kernel
theorem dX8_base_23 : decode cX8_base 23 = .ok (.iload_n 1, 1) := by decide +kernel
theorem dX8_base_24 : decode cX8_base 24 = .ok (.iconst (-1), 1) := by decide +kernel
theorem dX8_base_25 : decode cX8_base 25 = .ok (.if_icmp .ne 10, 3) := by decide +kernel
theorem dX8_base_28 : decode cX8_base 28 = .ok (.aload_n 0, 1) := by decide +kernel
theorem dX8_base_29 : decode cX8_base 29 = .ok (.invokevirtual 269, 3) := by decide +kernel
theorem dX8_base_32 : decode cX8_base 32 = .ok (.goto 12, 3) := by decide +kernel
theorem dX8_base_35 : decode cX8_base 35 = .ok (.aload_n 0, 1) := by decide +kernel
theorem dX8_base_36 : decode cX8_base 36 = .ok (.aload_n 0, 1) := by decide +kernel
theorem dX8_base_37 : decode cX8_base 37 = .ok (.iload_n 1, 1) := by decide +kernel
theorem dX8_base_38 : decode cX8_base 38 = .ok (.invokevirtual 263, 3) := by decide +kernel
theorem dX8_base_41 : decode cX8_base 41 = .ok (.invokevirtual 272, 3) := by decide +kernel
theorem dX8_base_44 : decode cX8_base 44 = .ok (.ireturn, 1) := by decide +kernel
theorem dX8_level_0 : decode cX8_level 0 = .ok (.aload_n 0, 1) := by decide +kernel
theorem dX8_level_1 : decode cX8_level 1 = .ok (.aload_n 0, 1) := by decide +kernel
theorem dX8_level_2 : decode cX8_level 2 = .ok (.iload_n 1, 1) := by decide +kernel
theorem dX8_level_3 : decode cX8_level 3 = .ok (.ifCond .lt 7, 3) := by decide +kernel
theorem dX8_level_6 : decode cX8_level 6 = .ok (.iconst 0, 1) := by decide +kernel
theorem dX8_level_7 : decode cX8_level 7 = .ok (.goto 4, 3) := by decide +kernel
theorem dX8_level_10 : decode cX8_level 10 = .ok (.iconst 1, 1) := by decide +kernel
theorem dX8_level_11 : decode cX8_level 11 = .ok (.invokevirtual 260, 3) := by decide +kernel
theorem dX8_level_14 : decode cX8_level 14 = .ok (.invokevirtual 194, 3) := by decide +kernel
theorem dX8_level_17 : decode cX8_level 17 = .ok (.ifCond .ne 5, 3) := by decide +kernel
theorem dX8_level_20 : decode cX8_level 20 = .ok (.iconst (-1), 1) := by decide +kernel
theorem dX8_level_21 : decode cX8_level 21 = .ok (.ireturn, 1) := by decide +kernel
theorem dX8_level_22 : decode cX8_level 22 = .ok (.aload_n 0, 1) := by decide +kernel
theorem dX8_level_23 : decode cX8_level 23 = .ok (.iload_n 1, 1) := by decide +kernel
theorem dX8_level_24 : decode cX8_level 24 = .ok (.invokevirtual 263, 3) := by decide +kernel
theorem dX8_level_27 : decode cX8_level 27 = .ok (.istore_n 2, 1) := by decide +kernel
theorem dX8_level_28 : decode cX8_level 28 = .ok (.iload_n 2, 1) := by decide +kernel
theorem dX8_level_29 : decode cX8_level 29 = .ok (.iconst (-1), 1) := by decide +kernel
theorem dX8_level_30 : decode cX8_level 30 = .ok (.if_icmp .ne 9, 3) := by decide +kernel
theorem dX8_level_33 : decode cX8_level 33 = .ok (.aload_n 0, 1) := by decide +kernel
theorem dX8_level_34 : decode cX8_level 34 = .ok (.iconst 5, 1) := by decide +kernel
theorem dX8_level_35 : decode cX8_level 35 = .ok (.invokevirtual 266, 3) := by decide +kernel
theorem dX8_level_38 : decode cX8_level 38 = .ok (.ireturn, 1) := by decide +kernel
theorem dX8_level_39 : decode cX8_level 39 = .ok (.iconst 0, 1) := by decide +kernel
theorem dX8_level_40 : decode cX8_level 40 = .ok (.istore_n 3, 1) := by decide +kernel
theorem dX8_level_41 : decode cX8_level 41 = .ok (.iconst 0, 1) := by decide +kernel
theorem dX8_level_42 : decode cX8_level 42 = .ok (.istore 4, 2) := by decide +kernel
theorem dX8_level_44 : decode cX8_level 44 = .ok (.iload 4, 2) := by decide +kernel
theorem dX8_level_46 : decode cX8_level 46 = .ok (.aload_n 0, 1) := by decide +kernel
theorem dX8_level_47 : decode cX8_level 47 = .ok (.getfield 118, 3) := by decide +kernel
theorem dX8_level_50 : decode cX8_level 50 = .ok (.if_icmp .ge 35, 3) := by decide +kernel
theorem dX8_level_53 : decode cX8_level 53 = .ok (.iload_n 3, 1) := by decide +kernel
theorem dX8_level_54 : decode cX8_level 54 = .ok (.aload_n 0, 1) := by decide +kernel
theorem dX8_level_55 : decode cX8_level 55 = .ok (.getfield 34, 3) := by decide +kernel
theorem dX8_level_58 : decode cX8_level 58 = .ok (.bipush 10, 2) := by decide +kernel
theorem dX8_level_60 : decode cX8_level 60 = .ok (.iload_n 2, 1) := by decide +kernel
theorem dX8_level_61 : decode cX8_level 61 = .ok (.imul, 1) := by decide +kernel
theorem dX8_level_62 : decode cX8_level 62 = .ok (.iload 4, 2) := by decide +kernel
theorem dX8_level_64 : decode cX8_level 64 = .ok (.iadd, 1) := by decide +kernel
theorem dX8_level_65 : decode cX8_level 65 = .ok (.baload, 1) := by decide +kernel
theorem dX8_level_66 : decode cX8_level 66 = .ok (.ifCond .eq 10, 3) := by decide +kernel
theorem dX8_level_69 : decode cX8_level 69 = .ok (.iconst 1, 1) := by decide +kernel
theorem dX8_level_70 : decode cX8_level 70 = .ok (.iload 4, 2) := by decide +kernel
theorem dX8_level_72 : decode cX8_level 72 = .ok (.ishl, 1) := by decide +kernel
theorem dX8_level_73 : decode cX8_level 73 = .ok (.goto 4, 3) := by decide +kernel
theorem dX8_level_76 : decode cX8_level 76 = .ok (.iconst 0, 1) := by decide +kernel
theorem dX8_level_77 : decode cX8_level 77 = .ok (.ior, 1) := by decide +kernel
theorem dX8_level_78 : decode cX8_level 78 = .ok (.istore_n 3, 1) := by decide +kernel
theorem dX8_level_79 : decode cX8_level 79 = .ok (.iinc 4 1, 3) := by decide +kernel
theorem dX8_level_82 : decode cX8_level 82 = .ok (.goto (-38), 3) := by decide +kernel
theorem dX8_level_85 : decode cX8_level 85 = .ok (.iload_n 3, 1) := by decide +kernel
theorem dX8_level_86 : decode cX8_level 86 = .ok (.ireturn, 1) := by decide +kernel
theorem dX8_order_0 : decode cX8_order 0 = .ok (.aload_n 0, 1) := by decide +kernel
theorem dX8_order_1 : decode cX8_order 1 = .ok (.aload_n 0, 1) := by decide +kernel
theorem dX8_order_2 : decode cX8_order 2 = .ok (.iconst 0, 1) := by decide +kernel
theorem dX8_order_3 : decode cX8_order 3 = .ok (.invokevirtual 260, 3) := by decide +kernel
theorem dX8_order_6 : decode cX8_order 6 = .ok (.invokevirtual 194, 3) := by decide +kernel
theorem dX8_order_9 : decode cX8_order 9 = .ok (.ifCond .eq 10, 3) := by decide +kernel
theorem dX8_order_12 : decode cX8_order 12 = .ok (.aload_n 0, 1) := by decide +kernel
theorem dX8_order_13 : decode cX8_order 13 = .ok (.invokevirtual 185, 3) := by decide +kernel
theorem dX8_order_16 : decode cX8_order 16 = .ok (.goto 4, 3) := by decide +kernel
theorem dX8_order_19 : decode cX8_order 19 = .ok (.iconst (-1), 1) := by decide +kernel
theorem dX8_order_20 : decode cX8_order 20 = .ok (.ireturn, 1) := by decide +kernel
theorem dX8_member_0 : decode cX8_member 0 = .ok (.aload_n 0, 1) := by decide +kernel
theorem dX8_member_1 : decode cX8_member 1 = .ok (.aload_n 0, 1) := by decide +kernel
theorem dX8_member_2 : decode cX8_member 2 = .ok (.lload_n 1, 1) := by decide +kernel
theorem dX8_member_3 : decode cX8_member 3 = .ok (.aload_n 0, 1) := by decide +kernel
theorem dX8_member_4 : decode cX8_member 4 = .ok (.getfield 16, 3) := by decide +kernel
theorem dX8_member_7 : decode cX8_member 7 = .ok (.invokevirtual 217, 3) := by decide +kernel
theorem dX8_member_10 : decode cX8_member 10 = .ok (.ifCond .eq 7, 3) := by decide +kernel
theorem dX8_member_13 : decode cX8_member 13 = .ok (.iconst 0, 1) := by decide +kernel
theorem dX8_member_14 : decode cX8_member 14 = .ok (.goto 4, 3) := by decide +kernel
theorem dX8_member_17 : decode cX8_member 17 = .ok (.iconst 1, 1) := by decide +kernel
theorem dX8_member_18 : decode cX8_member 18 = .ok (.invokevirtual 194, 3) := by decide +kernel
theorem dX8_member_21 : decode cX8_member 21 = .ok (.ifCond .ne 5, 3) := by decide +kernel
theorem dX8_member_24 : decode cX8_member 24 = .ok (.iconst (-1), 1) := by decide +kernel
theorem dX8_member_25 : decode cX8_member 25 = .ok (.ireturn, 1) := by decide +kernel
theorem dX8_member_26 : decode cX8_member 26 = .ok (.aload_n 0, 1) := by decide +kernel
theorem dX8_member_27 : decode cX8_member 27 = .ok (.invokevirtual 179, 3) := by decide +kernel
theorem dX8_member_30 : decode cX8_member 30 = .ok (.aload_n 0, 1) := by decide +kernel
theorem dX8_member_31 : decode cX8_member 31 = .ok (.iconst 0, 1) := by decide +kernel
theorem dX8_member_32 : decode cX8_member 32 = .ok (.aload_n 0, 1) := by decide +kernel
theorem dX8_member_33 : decode cX8_member 33 = .ok (.getfield 16, 3) := by decide +kernel
theorem dX8_member_36 : decode cX8_member 36 = .ok (.invokevirtual 275, 3) := by decide +kernel
theorem dX8_member_39 : decode cX8_member 39 = .ok (.ifCond .eq 7, 3) := by decide +kernel
theorem dX8_member_42 : decode cX8_member 42 = .ok (.iconst 1, 1) := by decide +kernel
theorem dX8_member_43 : decode cX8_member 43 = .ok (.goto 4, 3) := by decide +kernel
theorem dX8_member_46 : decode cX8_member 46 = .ok (.iconst 0, 1) := by decide +kernel
theorem dX8_member_47 : decode cX8_member 47 = .ok (.ireturn, 1) := by decide +kernel
theorem dX8_followedOf_0 : decode cX8_followedOf 0 = .ok (.aload_n 0, 1) := by decide +kernel
theorem dX8_followedOf_1 : decode cX8_followedOf 1 = .ok (.invokevirtual 179, 3) := by decide +kernel
theorem dX8_followedOf_4 : decode cX8_followedOf 4 = .ok (.aload_n 0, 1) := by decide +kernel
theorem dX8_followedOf_5 : decode cX8_followedOf 5 = .ok (.iconst 0, 1) := by decide +kernel
theorem dX8_followedOf_6 : decode cX8_followedOf 6 = .ok (.aload_n 1, 1) := by decide +kernel
theorem dX8_followedOf_7 : decode cX8_followedOf 7 = .ok (.invokevirtual 142, 3) := by decide +kernel
theorem dX8_followedOf_10 : decode cX8_followedOf 10 = .ok (.istore_n 2, 1) := by decide +kernel
theorem dX8_followedOf_11 : decode cX8_followedOf 11 = .ok (.iload_n 2, 1) := by decide +kernel
theorem dX8_followedOf_12 : decode cX8_followedOf 12 = .ok (.aload_n 0, 1) := by decide +kernel
theorem dX8_followedOf_13 : decode cX8_followedOf 13 = .ok (.getfield 118, 3) := by decide +kernel
theorem dX8_followedOf_16 : decode cX8_followedOf 16 = .ok (.if_icmp .ge 7, 3) := by decide +kernel
theorem dX8_followedOf_19 : decode cX8_followedOf 19 = .ok (.iload_n 2, 1) := by decide +kernel
theorem dX8_followedOf_20 : decode cX8_followedOf 20 = .ok (.goto 7, 3) := by decide +kernel
theorem dX8_followedOf_23 : decode cX8_followedOf 23 = .ok (.aload_n 0, 1) := by decide +kernel
theorem dX8_followedOf_24 : decode cX8_followedOf 24 = .ok (.getfield 118, 3) := by decide +kernel
theorem dX8_followedOf_27 : decode cX8_followedOf 27 = .ok (.ireturn, 1) := by decide +kernel
theorem dX8_followed_0 : decode cX8_followed 0 = .ok (.aload_n 0, 1) := by decide +kernel
theorem dX8_followed_1 : decode cX8_followed 1 = .ok (.aload_n 0, 1) := by decide +kernel
theorem dX8_followed_2 : decode cX8_followed 2 = .ok (.lload_n 1, 1) := by decide +kernel
theorem dX8_followed_3 : decode cX8_followed 3 = .ok (.aload_n 0, 1) := by decide +kernel
theorem dX8_followed_4 : decode cX8_followed 4 = .ok (.getfield 16, 3) := by decide +kernel
theorem dX8_followed_7 : decode cX8_followed 7 = .ok (.invokevirtual 217, 3) := by decide +kernel
theorem dX8_followed_10 : decode cX8_followed 10 = .ok (.ifCond .eq 7, 3) := by decide +kernel
theorem dX8_followed_13 : decode cX8_followed 13 = .ok (.iconst 0, 1) := by decide +kernel
theorem dX8_followed_14 : decode cX8_followed 14 = .ok (.goto 4, 3) := by decide +kernel
theorem dX8_followed_17 : decode cX8_followed 17 = .ok (.iconst 1, 1) := by decide +kernel
theorem dX8_followed_18 : decode cX8_followed 18 = .ok (.invokevirtual 194, 3) := by decide +kernel
theorem dX8_followed_21 : decode cX8_followed 21 = .ok (.ifCond .eq 14, 3) := by decide +kernel
theorem dX8_followed_24 : decode cX8_followed 24 = .ok (.aload_n 0, 1) := by decide +kernel
theorem dX8_followed_25 : decode cX8_followed 25 = .ok (.aload_n 0, 1) := by decide +kernel
theorem dX8_followed_26 : decode cX8_followed 26 = .ok (.getfield 16, 3) := by decide +kernel
theorem dX8_followed_29 : decode cX8_followed 29 = .ok (.invokevirtual 278, 3) := by decide +kernel
theorem dX8_followed_32 : decode cX8_followed 32 = .ok (.goto 4, 3) := by decide +kernel
theorem dX8_followed_35 : decode cX8_followed 35 = .ok (.iconst (-1), 1) := by decide +kernel
theorem dX8_followed_36 : decode cX8_followed 36 = .ok (.ireturn, 1) := by decide +kernel
theorem dX8_nth_0 : decode cX8_nth 0 = .ok (.aload_n 0, 1) := by decide +kernel
theorem dX8_nth_1 : decode cX8_nth 1 = .ok (.aload_n 0, 1) := by decide +kernel
theorem dX8_nth_2 : decode cX8_nth 2 = .ok (.iload_n 1, 1) := by decide +kernel
theorem dX8_nth_3 : decode cX8_nth 3 = .ok (.ifCond .lt 7, 3) := by decide +kernel
theorem dX8_nth_6 : decode cX8_nth 6 = .ok (.iconst 0, 1) := by decide +kernel
theorem dX8_nth_7 : decode cX8_nth 7 = .ok (.goto 4, 3) := by decide +kernel
theorem dX8_nth_10 : decode cX8_nth 10 = .ok (.iconst 1, 1) := by decide +kernel
theorem dX8_nth_11 : decode cX8_nth 11 = .ok (.invokevirtual 260, 3) := by decide +kernel
theorem dX8_nth_14 : decode cX8_nth 14 = .ok (.invokevirtual 194, 3) := by decide +kernel
theorem dX8_nth_17 : decode cX8_nth 17 = .ok (.ifCond .ne 7, 3) := by decide +kernel
theorem dX8_nth_20 : decode cX8_nth 20 = .ok (.ldc2_w 208, 3) := by decide +kernel
theorem dX8_nth_23 : decode cX8_nth 23 = .ok (.lreturn, 1) := by decide +kernel
theorem dX8_nth_24 : decode cX8_nth 24 = .ok (.iload_n 1, 1) := by decide +kernel
theorem dX8_nth_25 : decode cX8_nth 25 = .ok (.aload_n 0, 1) := by decide +kernel
theorem dX8_nth_26 : decode cX8_nth 26 = .ok (.invokevirtual 185, 3) := by decide +kernel
theorem dX8_nth_29 : decode cX8_nth 29 = .ok (.if_icmp .lt 10, 3) := by decide +kernel
theorem dX8_nth_32 : decode cX8_nth 32 = .ok (.aload_n 0, 1) := by decide +kernel
theorem dX8_nth_33 : decode cX8_nth 33 = .ok (.iconst 5, 1) := by decide +kernel
theorem dX8_nth_34 : decode cX8_nth 34 = .ok (.invokevirtual 266, 3) := by decide +kernel
theorem dX8_nth_37 : decode cX8_nth 37 = .ok (.i2l, 1) := by decide +kernel
theorem dX8_nth_38 : decode cX8_nth 38 = .ok (.lreturn, 1) := by decide +kernel
theorem dX8_nth_39 : decode cX8_nth 39 = .ok (.aload_n 0, 1) := by decide +kernel
theorem dX8_nth_40 : decode cX8_nth 40 = .ok (.iload_n 1, 1) := by decide +kernel
theorem dX8_nth_41 : decode cX8_nth 41 = .ok (.aload_n 0, 1) := by decide +kernel
theorem dX8_nth_42 : decode cX8_nth 42 = .ok (.getfield 16, 3) := by decide +kernel
theorem dX8_nth_45 : decode cX8_nth 45 = .ok (.invokevirtual 281, 3) := by decide +kernel
theorem dX8_nth_48 : decode cX8_nth 48 = .ok (.aload_n 0, 1) := by decide +kernel
theorem dX8_nth_49 : decode cX8_nth 49 = .ok (.aload_n 0, 1) := by decide +kernel
theorem dX8_nth_50 : decode cX8_nth 50 = .ok (.getfield 16, 3) := by decide +kernel
theorem dX8_nth_53 : decode cX8_nth 53 = .ok (.invokevirtual 213, 3) := by decide +kernel
theorem dX8_nth_56 : decode cX8_nth 56 = .ok (.lreturn, 1) := by decide +kernel
theorem dX8_placed_0 : decode cX8_placed 0 = .ok (.aload_n 0, 1) := by decide +kernel
theorem dX8_placed_1 : decode cX8_placed 1 = .ok (.invokevirtual 179, 3) := by decide +kernel
theorem dX8_placed_4 : decode cX8_placed 4 = .ok (.aload_n 0, 1) := by decide +kernel
theorem dX8_placed_5 : decode cX8_placed 5 = .ok (.aload_n 1, 1) := by decide +kernel
theorem dX8_placed_6 : decode cX8_placed 6 = .ok (.invokevirtual 284, 3) := by decide +kernel
theorem dX8_placed_9 : decode cX8_placed 9 = .ok (.ireturn, 1) := by decide +kernel
theorem dX8_rank_0 : decode cX8_rank 0 = .ok (.aload_n 0, 1) := by decide +kernel
theorem dX8_rank_1 : decode cX8_rank 1 = .ok (.aload_n 0, 1) := by decide +kernel
theorem dX8_rank_2 : decode cX8_rank 2 = .ok (.lload_n 1, 1) := by decide +kernel
theorem dX8_rank_3 : decode cX8_rank 3 = .ok (.aload_n 0, 1) := by decide +kernel
theorem dX8_rank_4 : decode cX8_rank 4 = .ok (.getfield 16, 3) := by decide +kernel
theorem dX8_rank_7 : decode cX8_rank 7 = .ok (.invokevirtual 217, 3) := by decide +kernel
theorem dX8_rank_10 : decode cX8_rank 10 = .ok (.ifCond .eq 7, 3) := by decide +kernel
theorem dX8_rank_13 : decode cX8_rank 13 = .ok (.iconst 0, 1) := by decide +kernel
theorem dX8_rank_14 : decode cX8_rank 14 = .ok (.goto 4, 3) := by decide +kernel
theorem dX8_rank_17 : decode cX8_rank 17 = .ok (.iconst 1, 1) := by decide +kernel
theorem dX8_rank_18 : decode cX8_rank 18 = .ok (.invokevirtual 194, 3) := by decide +kernel
theorem dX8_rank_21 : decode cX8_rank 21 = .ok (.ifCond .ne 5, 3) := by decide +kernel
theorem dX8_rank_24 : decode cX8_rank 24 = .ok (.iconst (-1), 1) := by decide +kernel
theorem dX8_rank_25 : decode cX8_rank 25 = .ok (.ireturn, 1) := by decide +kernel
theorem dX8_rank_26 : decode cX8_rank 26 = .ok (.aload_n 0, 1) := by decide +kernel
theorem dX8_rank_27 : decode cX8_rank 27 = .ok (.aload_n 0, 1) := by decide +kernel
theorem dX8_rank_28 : decode cX8_rank 28 = .ok (.getfield 16, 3) := by decide +kernel
theorem dX8_rank_31 : decode cX8_rank 31 = .ok (.invokevirtual 287, 3) := by decide +kernel
theorem dX8_rank_34 : decode cX8_rank 34 = .ok (.istore_n 3, 1) := by decide +kernel
theorem dX8_rank_35 : decode cX8_rank 35 = .ok (.iload_n 3, 1) := by decide +kernel
theorem dX8_rank_36 : decode cX8_rank 36 = .ok (.iconst (-1), 1) := by decide +kernel
theorem dX8_rank_37 : decode cX8_rank 37 = .ok (.if_icmp .ne 12, 3) := by decide +kernel
theorem dX8_rank_40 : decode cX8_rank 40 = .ok (.aload_n 0, 1) := by decide +kernel
theorem dX8_rank_41 : decode cX8_rank 41 = .ok (.bipush 6, 2) := by decide +kernel
theorem dX8_rank_43 : decode cX8_rank 43 = .ok (.invokevirtual 266, 3) := by decide +kernel
theorem dX8_rank_46 : decode cX8_rank 46 = .ok (.goto 4, 3) := by decide +kernel
theorem dX8_rank_49 : decode cX8_rank 49 = .ok (.iload_n 3, 1) := by decide +kernel
theorem dX8_rank_50 : decode cX8_rank 50 = .ok (.ireturn, 1) := by decide +kernel
theorem dX8_laysAll_0 : decode cX8_laysAll 0 = .ok (.aload_n 0, 1) := by decide +kernel
theorem dX8_laysAll_1 : decode cX8_laysAll 1 = .ok (.aload_n 0, 1) := by decide +kernel
theorem dX8_laysAll_2 : decode cX8_laysAll 2 = .ok (.invokevirtual 185, 3) := by decide +kernel
theorem dX8_laysAll_5 : decode cX8_laysAll 5 = .ok (.putfield 290, 3) := by decide +kernel
theorem dX8_laysAll_8 : decode cX8_laysAll 8 = .ok (.iconst 0, 1) := by decide +kernel
theorem dX8_laysAll_9 : decode cX8_laysAll 9 = .ok (.istore_n 1, 1) := by decide +kernel
theorem dX8_laysAll_10 : decode cX8_laysAll 10 = .ok (.iload_n 1, 1) := by decide +kernel
theorem dX8_laysAll_11 : decode cX8_laysAll 11 = .ok (.aload_n 0, 1) := by decide +kernel
theorem dX8_laysAll_12 : decode cX8_laysAll 12 = .ok (.getfield 290, 3) := by decide +kernel
theorem dX8_laysAll_15 : decode cX8_laysAll 15 = .ok (.if_icmp .ge 34, 3) := by decide +kernel
theorem dX8_laysAll_18 : decode cX8_laysAll 18 = .ok (.aload_n 0, 1) := by decide +kernel
theorem dX8_laysAll_19 : decode cX8_laysAll 19 = .ok (.iload_n 1, 1) := by decide +kernel
theorem dX8_laysAll_20 : decode cX8_laysAll 20 = .ok (.aload_n 0, 1) := by decide +kernel
theorem dX8_laysAll_21 : decode cX8_laysAll 21 = .ok (.getfield 22, 3) := by decide +kernel
theorem dX8_laysAll_24 : decode cX8_laysAll 24 = .ok (.invokevirtual 281, 3) := by decide +kernel
theorem dX8_laysAll_27 : decode cX8_laysAll 27 = .ok (.aload_n 0, 1) := by decide +kernel
theorem dX8_laysAll_28 : decode cX8_laysAll 28 = .ok (.getfield 22, 3) := by decide +kernel
theorem dX8_laysAll_31 : decode cX8_laysAll 31 = .ok (.iconst 0, 1) := by decide +kernel
theorem dX8_laysAll_32 : decode cX8_laysAll 32 = .ok (.aload_n 0, 1) := by decide +kernel
theorem dX8_laysAll_33 : decode cX8_laysAll 33 = .ok (.getfield 60, 3) := by decide +kernel
theorem dX8_laysAll_36 : decode cX8_laysAll 36 = .ok (.bipush 10, 2) := by decide +kernel
theorem dX8_laysAll_38 : decode cX8_laysAll 38 = .ok (.iload_n 1, 1) := by decide +kernel
theorem dX8_laysAll_39 : decode cX8_laysAll 39 = .ok (.imul, 1) := by decide +kernel
theorem dX8_laysAll_40 : decode cX8_laysAll 40 = .ok (.invokestatic 100, 3) := by decide +kernel
theorem dX8_laysAll_43 : decode cX8_laysAll 43 = .ok (.iinc 1 1, 3) := by decide +kernel
theorem dX8_laysAll_46 : decode cX8_laysAll 46 = .ok (.goto (-36), 3) := by decide +kernel
theorem dX8_laysAll_49 : decode cX8_laysAll 49 = .ok (.return_, 1) := by decide +kernel
theorem dX8_laysOne_0 : decode cX8_laysOne 0 = .ok (.aload_n 0, 1) := by decide +kernel
theorem dX8_laysOne_1 : decode cX8_laysOne 1 = .ok (.getfield 60, 3) := by decide +kernel
theorem dX8_laysOne_4 : decode cX8_laysOne 4 = .ok (.bipush 10, 2) := by decide +kernel
theorem dX8_laysOne_6 : decode cX8_laysOne 6 = .ok (.iload_n 1, 1) := by decide +kernel
theorem dX8_laysOne_7 : decode cX8_laysOne 7 = .ok (.imul, 1) := by decide +kernel
theorem dX8_laysOne_8 : decode cX8_laysOne 8 = .ok (.aload_n 2, 1) := by decide +kernel
theorem dX8_laysOne_9 : decode cX8_laysOne 9 = .ok (.iconst 0, 1) := by decide +kernel
theorem dX8_laysOne_10 : decode cX8_laysOne 10 = .ok (.invokestatic 100, 3) := by decide +kernel
theorem dX8_laysOne_13 : decode cX8_laysOne 13 = .ok (.return_, 1) := by decide +kernel
theorem dX8_laysDepths_0 : decode cX8_laysDepths 0 = .ok (.aload_n 0, 1) := by decide +kernel
theorem dX8_laysDepths_1 : decode cX8_laysDepths 1 = .ok (.invokevirtual 293, 3) := by decide +kernel
theorem dX8_laysDepths_4 : decode cX8_laysDepths 4 = .ok (.iconst 0, 1) := by decide +kernel
theorem dX8_laysDepths_5 : decode cX8_laysDepths 5 = .ok (.istore_n 1, 1) := by decide +kernel
theorem dX8_laysDepths_6 : decode cX8_laysDepths 6 = .ok (.iload_n 1, 1) := by decide +kernel
theorem dX8_laysDepths_7 : decode cX8_laysDepths 7 = .ok (.aload_n 0, 1) := by decide +kernel
theorem dX8_laysDepths_8 : decode cX8_laysDepths 8 = .ok (.getfield 290, 3) := by decide +kernel
theorem dX8_laysDepths_11 : decode cX8_laysDepths 11 = .ok (.if_icmp .ge 16, 3) := by decide +kernel
theorem dX8_laysDepths_14 : decode cX8_laysDepths 14 = .ok (.aload_n 0, 1) := by decide +kernel
theorem dX8_laysDepths_15 : decode cX8_laysDepths 15 = .ok (.getfield 63, 3) := by decide +kernel
theorem dX8_laysDepths_18 : decode cX8_laysDepths 18 = .ok (.iload_n 1, 1) := by decide +kernel
theorem dX8_laysDepths_19 : decode cX8_laysDepths 19 = .ok (.iconst (-1), 1) := by decide +kernel
theorem dX8_laysDepths_20 : decode cX8_laysDepths 20 = .ok (.iastore, 1) := by decide +kernel
theorem dX8_laysDepths_21 : decode cX8_laysDepths 21 = .ok (.iinc 1 1, 3) := by decide +kernel
theorem dX8_laysDepths_24 : decode cX8_laysDepths 24 = .ok (.goto (-18), 3) := by decide +kernel
theorem dX8_laysDepths_27 : decode cX8_laysDepths 27 = .ok (.aload_n 0, 1) := by decide +kernel
theorem dX8_laysDepths_28 : decode cX8_laysDepths 28 = .ok (.getfield 63, 3) := by decide +kernel
theorem dX8_laysDepths_31 : decode cX8_laysDepths 31 = .ok (.iconst 0, 1) := by decide +kernel
theorem dX8_laysDepths_32 : decode cX8_laysDepths 32 = .ok (.iconst 0, 1) := by decide +kernel
theorem dX8_laysDepths_33 : decode cX8_laysDepths 33 = .ok (.iastore, 1) := by decide +kernel
theorem dX8_laysDepths_34 : decode cX8_laysDepths 34 = .ok (.aload_n 0, 1) := by decide +kernel
theorem dX8_laysDepths_35 : decode cX8_laysDepths 35 = .ok (.getfield 66, 3) := by decide +kernel
theorem dX8_laysDepths_38 : decode cX8_laysDepths 38 = .ok (.iconst 0, 1) := by decide +kernel
theorem dX8_laysDepths_39 : decode cX8_laysDepths 39 = .ok (.iconst 0, 1) := by decide +kernel
theorem dX8_laysDepths_40 : decode cX8_laysDepths 40 = .ok (.iastore, 1) := by decide +kernel
theorem dX8_laysDepths_41 : decode cX8_laysDepths 41 = .ok (.iconst 1, 1) := by decide +kernel
theorem dX8_laysDepths_42 : decode cX8_laysDepths 42 = .ok (.istore_n 1, 1) := by decide +kernel
theorem dX8_laysDepths_43 : decode cX8_laysDepths 43 = .ok (.iconst 0, 1) := by decide +kernel
theorem dX8_laysDepths_44 : decode cX8_laysDepths 44 = .ok (.istore_n 2, 1) := by decide +kernel
theorem dX8_laysDepths_45 : decode cX8_laysDepths 45 = .ok (.iload_n 2, 1) := by decide +kernel
theorem dX8_laysDepths_46 : decode cX8_laysDepths 46 = .ok (.iload_n 1, 1) := by decide +kernel
theorem dX8_laysDepths_47 : decode cX8_laysDepths 47 = .ok (.if_icmp .ge 120, 3) := by decide +kernel
theorem dX8_laysDepths_50 : decode cX8_laysDepths 50 = .ok (.iconst 0, 1) := by decide +kernel
theorem dX8_laysDepths_51 : decode cX8_laysDepths 51 = .ok (.istore_n 3, 1) := by decide +kernel
theorem dX8_laysDepths_52 : decode cX8_laysDepths 52 = .ok (.iload_n 3, 1) := by decide +kernel
theorem dX8_laysDepths_53 : decode cX8_laysDepths 53 = .ok (.iconst 2, 1) := by decide +kernel
theorem dX8_laysDepths_54 : decode cX8_laysDepths 54 = .ok (.aload_n 0, 1) := by decide +kernel
theorem dX8_laysDepths_55 : decode cX8_laysDepths 55 = .ok (.invokevirtual 110, 3) := by decide +kernel
theorem dX8_laysDepths_58 : decode cX8_laysDepths 58 = .ok (.imul, 1) := by decide +kernel
theorem dX8_laysDepths_59 : decode cX8_laysDepths 59 = .ok (.if_icmp .ge 102, 3) := by decide +kernel
theorem dX8_laysDepths_62 : decode cX8_laysDepths 62 = .ok (.aload_n 0, 1) := by decide +kernel
theorem dX8_laysDepths_63 : decode cX8_laysDepths 63 = .ok (.aload_n 0, 1) := by decide +kernel
theorem dX8_laysDepths_64 : decode cX8_laysDepths 64 = .ok (.getfield 66, 3) := by decide +kernel
theorem dX8_laysDepths_67 : decode cX8_laysDepths 67 = .ok (.iload_n 2, 1) := by decide +kernel
theorem dX8_laysDepths_68 : decode cX8_laysDepths 68 = .ok (.iaload, 1) := by decide +kernel
theorem dX8_laysDepths_69 : decode cX8_laysDepths 69 = .ok (.aload_n 0, 1) := by decide +kernel
theorem dX8_laysDepths_70 : decode cX8_laysDepths 70 = .ok (.getfield 25, 3) := by decide +kernel
theorem dX8_laysDepths_73 : decode cX8_laysDepths 73 = .ok (.invokevirtual 296, 3) := by decide +kernel
theorem dX8_laysDepths_76 : decode cX8_laysDepths 76 = .ok (.aload_n 0, 1) := by decide +kernel
theorem dX8_laysDepths_77 : decode cX8_laysDepths 77 = .ok (.iload_n 3, 1) := by decide +kernel
theorem dX8_laysDepths_78 : decode cX8_laysDepths 78 = .ok (.aload_n 0, 1) := by decide +kernel
theorem dX8_laysDepths_79 : decode cX8_laysDepths 79 = .ok (.getfield 28, 3) := by decide +kernel
theorem dX8_laysDepths_82 : decode cX8_laysDepths 82 = .ok (.invokevirtual 210, 3) := by decide +kernel
theorem dX8_laysDepths_85 : decode cX8_laysDepths 85 = .ok (.aload_n 0, 1) := by decide +kernel
theorem dX8_laysDepths_86 : decode cX8_laysDepths 86 = .ok (.getfield 25, 3) := by decide +kernel
theorem dX8_laysDepths_89 : decode cX8_laysDepths 89 = .ok (.aload_n 0, 1) := by decide +kernel
theorem dX8_laysDepths_90 : decode cX8_laysDepths 90 = .ok (.getfield 28, 3) := by decide +kernel
theorem dX8_laysDepths_93 : decode cX8_laysDepths 93 = .ok (.aload_n 0, 1) := by decide +kernel
theorem dX8_laysDepths_94 : decode cX8_laysDepths 94 = .ok (.getfield 22, 3) := by decide +kernel
theorem dX8_laysDepths_97 : decode cX8_laysDepths 97 = .ok (.invokestatic 138, 3) := by decide +kernel
theorem dX8_laysDepths_100 : decode cX8_laysDepths 100 = .ok (.aload_n 0, 1) := by decide +kernel
theorem dX8_laysDepths_101 : decode cX8_laysDepths 101 = .ok (.aload_n 0, 1) := by decide +kernel
theorem dX8_laysDepths_102 : decode cX8_laysDepths 102 = .ok (.getfield 22, 3) := by decide +kernel
theorem dX8_laysDepths_105 : decode cX8_laysDepths 105 = .ok (.invokevirtual 284, 3) := by decide +kernel
theorem dX8_laysDepths_108 : decode cX8_laysDepths 108 = .ok (.istore 4, 2) := by decide +kernel
theorem dX8_laysDepths_110 : decode cX8_laysDepths 110 = .ok (.aload_n 0, 1) := by decide +kernel
theorem dX8_laysDepths_111 : decode cX8_laysDepths 111 = .ok (.getfield 63, 3) := by decide +kernel
theorem dX8_laysDepths_114 : decode cX8_laysDepths 114 = .ok (.iload 4, 2) := by decide +kernel
theorem dX8_laysDepths_116 : decode cX8_laysDepths 116 = .ok (.iaload, 1) := by decide +kernel
theorem dX8_laysDepths_117 : decode cX8_laysDepths 117 = .ok (.iconst (-1), 1) := by decide +kernel
theorem dX8_laysDepths_118 : decode cX8_laysDepths 118 = .ok (.if_icmp .eq 6, 3) := by decide +kernel
theorem dX8_laysDepths_121 : decode cX8_laysDepths 121 = .ok (.goto 34, 3) := by decide +kernel
theorem dX8_laysDepths_124 : decode cX8_laysDepths 124 = .ok (.aload_n 0, 1) := by decide +kernel
theorem dX8_laysDepths_125 : decode cX8_laysDepths 125 = .ok (.getfield 63, 3) := by decide +kernel
theorem dX8_laysDepths_128 : decode cX8_laysDepths 128 = .ok (.iload 4, 2) := by decide +kernel
theorem dX8_laysDepths_130 : decode cX8_laysDepths 130 = .ok (.aload_n 0, 1) := by decide +kernel
theorem dX8_laysDepths_131 : decode cX8_laysDepths 131 = .ok (.getfield 63, 3) := by decide +kernel
theorem dX8_laysDepths_134 : decode cX8_laysDepths 134 = .ok (.aload_n 0, 1) := by decide +kernel
theorem dX8_laysDepths_135 : decode cX8_laysDepths 135 = .ok (.getfield 66, 3) := by decide +kernel
theorem dX8_laysDepths_138 : decode cX8_laysDepths 138 = .ok (.iload_n 2, 1) := by decide +kernel
theorem dX8_laysDepths_139 : decode cX8_laysDepths 139 = .ok (.iaload, 1) := by decide +kernel
theorem dX8_laysDepths_140 : decode cX8_laysDepths 140 = .ok (.iaload, 1) := by decide +kernel
theorem dX8_laysDepths_141 : decode cX8_laysDepths 141 = .ok (.iconst 1, 1) := by decide +kernel
theorem dX8_laysDepths_142 : decode cX8_laysDepths 142 = .ok (.iadd, 1) := by decide +kernel
theorem dX8_laysDepths_143 : decode cX8_laysDepths 143 = .ok (.iastore, 1) := by decide +kernel
theorem dX8_laysDepths_144 : decode cX8_laysDepths 144 = .ok (.aload_n 0, 1) := by decide +kernel
theorem dX8_laysDepths_145 : decode cX8_laysDepths 145 = .ok (.getfield 66, 3) := by decide +kernel
theorem dX8_laysDepths_148 : decode cX8_laysDepths 148 = .ok (.iload_n 1, 1) := by decide +kernel
theorem dX8_laysDepths_149 : decode cX8_laysDepths 149 = .ok (.iload 4, 2) := by decide +kernel
theorem dX8_laysDepths_151 : decode cX8_laysDepths 151 = .ok (.iastore, 1) := by decide +kernel
theorem dX8_laysDepths_152 : decode cX8_laysDepths 152 = .ok (.iinc 1 1, 3) := by decide +kernel
theorem dX8_laysDepths_155 : decode cX8_laysDepths 155 = .ok (.iinc 3 1, 3) := by decide +kernel
theorem dX8_laysDepths_158 : decode cX8_laysDepths 158 = .ok (.goto (-106), 3) := by decide +kernel
theorem dX8_laysDepths_161 : decode cX8_laysDepths 161 = .ok (.iinc 2 1, 3) := by decide +kernel
theorem dX8_laysDepths_164 : decode cX8_laysDepths 164 = .ok (.goto (-119), 3) := by decide +kernel
theorem dX8_laysDepths_167 : decode cX8_laysDepths 167 = .ok (.return_, 1) := by decide +kernel
theorem dX8_wayTo_0 : decode cX8_wayTo 0 = .ok (.aload_n 1, 1) := by decide +kernel
theorem dX8_wayTo_1 : decode cX8_wayTo 1 = .ok (.iconst 0, 1) := by decide +kernel
theorem dX8_wayTo_2 : decode cX8_wayTo 2 = .ok (.aload_n 0, 1) := by decide +kernel
theorem dX8_wayTo_3 : decode cX8_wayTo 3 = .ok (.getfield 16, 3) := by decide +kernel
theorem dX8_wayTo_6 : decode cX8_wayTo 6 = .ok (.iconst 0, 1) := by decide +kernel
theorem dX8_wayTo_7 : decode cX8_wayTo 7 = .ok (.invokestatic 100, 3) := by decide +kernel
theorem dX8_wayTo_10 : decode cX8_wayTo 10 = .ok (.aload_n 0, 1) := by decide +kernel
theorem dX8_wayTo_11 : decode cX8_wayTo 11 = .ok (.getfield 63, 3) := by decide +kernel
theorem dX8_wayTo_14 : decode cX8_wayTo 14 = .ok (.aload_n 0, 1) := by decide +kernel
theorem dX8_wayTo_15 : decode cX8_wayTo 15 = .ok (.aload_n 0, 1) := by decide +kernel
theorem dX8_wayTo_16 : decode cX8_wayTo 16 = .ok (.getfield 16, 3) := by decide +kernel
theorem dX8_wayTo_19 : decode cX8_wayTo 19 = .ok (.invokevirtual 284, 3) := by decide +kernel
theorem dX8_wayTo_22 : decode cX8_wayTo 22 = .ok (.iaload, 1) := by decide +kernel
theorem dX8_wayTo_23 : decode cX8_wayTo 23 = .ok (.istore_n 3, 1) := by decide +kernel
theorem dX8_wayTo_24 : decode cX8_wayTo 24 = .ok (.iload_n 2, 1) := by decide +kernel
theorem dX8_wayTo_25 : decode cX8_wayTo 25 = .ok (.iconst (-1), 1) := by decide +kernel
theorem dX8_wayTo_26 : decode cX8_wayTo 26 = .ok (.if_icmp .ne 5, 3) := by decide +kernel
theorem dX8_wayTo_29 : decode cX8_wayTo 29 = .ok (.iload_n 3, 1) := by decide +kernel
theorem dX8_wayTo_30 : decode cX8_wayTo 30 = .ok (.ireturn, 1) := by decide +kernel
theorem dX8_wayTo_31 : decode cX8_wayTo 31 = .ok (.iload_n 2, 1) := by decide +kernel
theorem dX8_wayTo_32 : decode cX8_wayTo 32 = .ok (.iload_n 3, 1) := by decide +kernel
theorem dX8_wayTo_33 : decode cX8_wayTo 33 = .ok (.if_icmp .lt 5, 3) := by decide +kernel
theorem dX8_wayTo_36 : decode cX8_wayTo 36 = .ok (.iconst (-1), 1) := by decide +kernel
theorem dX8_wayTo_37 : decode cX8_wayTo 37 = .ok (.ireturn, 1) := by decide +kernel
theorem dX8_wayTo_38 : decode cX8_wayTo 38 = .ok (.iconst 0, 1) := by decide +kernel
theorem dX8_wayTo_39 : decode cX8_wayTo 39 = .ok (.istore 4, 2) := by decide +kernel
theorem dX8_wayTo_41 : decode cX8_wayTo 41 = .ok (.iconst (-1), 1) := by decide +kernel
theorem dX8_wayTo_42 : decode cX8_wayTo 42 = .ok (.istore 5, 2) := by decide +kernel
theorem dX8_wayTo_44 : decode cX8_wayTo 44 = .ok (.iinc 5 1, 3) := by decide +kernel
theorem dX8_wayTo_47 : decode cX8_wayTo 47 = .ok (.aload_n 0, 1) := by decide +kernel
theorem dX8_wayTo_48 : decode cX8_wayTo 48 = .ok (.iload 5, 2) := by decide +kernel
theorem dX8_wayTo_50 : decode cX8_wayTo 50 = .ok (.aload_n 0, 1) := by decide +kernel
theorem dX8_wayTo_51 : decode cX8_wayTo 51 = .ok (.getfield 25, 3) := by decide +kernel
theorem dX8_wayTo_54 : decode cX8_wayTo 54 = .ok (.invokevirtual 210, 3) := by decide +kernel
theorem dX8_wayTo_57 : decode cX8_wayTo 57 = .ok (.aload_n 0, 1) := by decide +kernel
theorem dX8_wayTo_58 : decode cX8_wayTo 58 = .ok (.getfield 25, 3) := by decide +kernel
theorem dX8_wayTo_61 : decode cX8_wayTo 61 = .ok (.aload_n 0, 1) := by decide +kernel
theorem dX8_wayTo_62 : decode cX8_wayTo 62 = .ok (.getfield 28, 3) := by decide +kernel
theorem dX8_wayTo_65 : decode cX8_wayTo 65 = .ok (.invokestatic 130, 3) := by decide +kernel
theorem dX8_wayTo_68 : decode cX8_wayTo 68 = .ok (.aload_n 0, 1) := by decide +kernel
theorem dX8_wayTo_69 : decode cX8_wayTo 69 = .ok (.getfield 28, 3) := by decide +kernel
theorem dX8_wayTo_72 : decode cX8_wayTo 72 = .ok (.aload_n 0, 1) := by decide +kernel
theorem dX8_wayTo_73 : decode cX8_wayTo 73 = .ok (.getfield 16, 3) := by decide +kernel
theorem dX8_wayTo_76 : decode cX8_wayTo 76 = .ok (.aload_n 0, 1) := by decide +kernel
theorem dX8_wayTo_77 : decode cX8_wayTo 77 = .ok (.getfield 22, 3) := by decide +kernel
theorem dX8_wayTo_80 : decode cX8_wayTo 80 = .ok (.invokestatic 138, 3) := by decide +kernel
theorem dX8_wayTo_83 : decode cX8_wayTo 83 = .ok (.aload_n 0, 1) := by decide +kernel
theorem dX8_wayTo_84 : decode cX8_wayTo 84 = .ok (.getfield 63, 3) := by decide +kernel
theorem dX8_wayTo_87 : decode cX8_wayTo 87 = .ok (.aload_n 0, 1) := by decide +kernel
theorem dX8_wayTo_88 : decode cX8_wayTo 88 = .ok (.aload_n 0, 1) := by decide +kernel
theorem dX8_wayTo_89 : decode cX8_wayTo 89 = .ok (.getfield 22, 3) := by decide +kernel
theorem dX8_wayTo_92 : decode cX8_wayTo 92 = .ok (.invokevirtual 284, 3) := by decide +kernel
theorem dX8_wayTo_95 : decode cX8_wayTo 95 = .ok (.iaload, 1) := by decide +kernel
theorem dX8_wayTo_96 : decode cX8_wayTo 96 = .ok (.iload_n 3, 1) := by decide +kernel
theorem dX8_wayTo_97 : decode cX8_wayTo 97 = .ok (.iload 4, 2) := by decide +kernel
theorem dX8_wayTo_99 : decode cX8_wayTo 99 = .ok (.isub, 1) := by decide +kernel
theorem dX8_wayTo_100 : decode cX8_wayTo 100 = .ok (.iconst 1, 1) := by decide +kernel
theorem dX8_wayTo_101 : decode cX8_wayTo 101 = .ok (.isub, 1) := by decide +kernel
theorem dX8_wayTo_102 : decode cX8_wayTo 102 = .ok (.if_icmp .ne (-58), 3) := by decide +kernel
theorem dX8_wayTo_105 : decode cX8_wayTo 105 = .ok (.iload 4, 2) := by decide +kernel
