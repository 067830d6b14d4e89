theorem dX9_findTails_27 : decode cX9_findTails 27 = .ok (.iload 4, 2) := by decide +kernel
theorem dX9_findTails_29 : decode cX9_findTails 29 = .ok (.ifCond .lt 65, 3) := by decide +kernel
theorem dX9_findTails_32 : decode cX9_findTails 32 = .ok (.aload_n 1, 1) := by decide +kernel
theorem dX9_findTails_33 : decode cX9_findTails 33 = .ok (.iload_n 2, 1) := by decide +kernel
theorem dX9_findTails_34 : decode cX9_findTails 34 = .ok (.iload 4, 2) := by decide +kernel
theorem dX9_findTails_36 : decode cX9_findTails 36 = .ok (.invokevirtual 93, 3) := by decide +kernel
theorem dX9_findTails_39 : decode cX9_findTails 39 = .ok (.istore 5, 2) := by decide +kernel
theorem dX9_findTails_41 : decode cX9_findTails 41 = .ok (.iload 5, 2) := by decide +kernel
theorem dX9_findTails_43 : decode cX9_findTails 43 = .ok (.invokestatic 96, 3) := by decide +kernel
theorem dX9_findTails_46 : decode cX9_findTails 46 = .ok (.ifCond .eq 7, 3) := by decide +kernel
theorem dX9_findTails_49 : decode cX9_findTails 49 = .ok (.iconst 1, 1) := by decide +kernel
theorem dX9_findTails_50 : decode cX9_findTails 50 = .ok (.goto 13, 3) := by decide +kernel
theorem dX9_findTails_53 : decode cX9_findTails 53 = .ok (.aload_n 0, 1) := by decide +kernel
theorem dX9_findTails_54 : decode cX9_findTails 54 = .ok (.getfield 9, 3) := by decide +kernel
theorem dX9_findTails_57 : decode cX9_findTails 57 = .ok (.iload 5, 2) := by decide +kernel
theorem dX9_findTails_59 : decode cX9_findTails 59 = .ok (.bipush 10, 2) := by decide +kernel
theorem dX9_findTails_61 : decode cX9_findTails 61 = .ok (.isub, 1) := by decide +kernel
theorem dX9_findTails_62 : decode cX9_findTails 62 = .ok (.iaload, 1) := by decide +kernel
theorem dX9_findTails_63 : decode cX9_findTails 63 = .ok (.istore 6, 2) := by decide +kernel
theorem dX9_findTails_65 : decode cX9_findTails 65 = .ok (.ldc 60, 2) := by decide +kernel
theorem dX9_findTails_67 : decode cX9_findTails 67 = .ok (.iload_n 3, 1) := by decide +kernel
theorem dX9_findTails_68 : decode cX9_findTails 68 = .ok (.iload 6, 2) := by decide +kernel
theorem dX9_findTails_70 : decode cX9_findTails 70 = .ok (.iadd, 1) := by decide +kernel
theorem dX9_findTails_71 : decode cX9_findTails 71 = .ok (.invokestatic 85, 3) := by decide +kernel
theorem dX9_findTails_74 : decode cX9_findTails 74 = .ok (.istore_n 3, 1) := by decide +kernel
theorem dX9_findTails_75 : decode cX9_findTails 75 = .ok (.aload_n 0, 1) := by decide +kernel
theorem dX9_findTails_76 : decode cX9_findTails 76 = .ok (.getfield 15, 3) := by decide +kernel
theorem dX9_findTails_79 : decode cX9_findTails 79 = .ok (.iload_n 2, 1) := by decide +kernel
theorem dX9_findTails_80 : decode cX9_findTails 80 = .ok (.bipush 6, 2) := by decide +kernel
theorem dX9_findTails_82 : decode cX9_findTails 82 = .ok (.imul, 1) := by decide +kernel
theorem dX9_findTails_83 : decode cX9_findTails 83 = .ok (.iload 4, 2) := by decide +kernel
theorem dX9_findTails_85 : decode cX9_findTails 85 = .ok (.iadd, 1) := by decide +kernel
theorem dX9_findTails_86 : decode cX9_findTails 86 = .ok (.iload_n 3, 1) := by decide +kernel
theorem dX9_findTails_87 : decode cX9_findTails 87 = .ok (.iastore, 1) := by decide +kernel
theorem dX9_findTails_88 : decode cX9_findTails 88 = .ok (.iinc 4 (-1), 3) := by decide +kernel
theorem dX9_findTails_91 : decode cX9_findTails 91 = .ok (.goto (-64), 3) := by decide +kernel
theorem dX9_findTails_94 : decode cX9_findTails 94 = .ok (.return_, 1) := by decide +kernel
theorem dX9_findReachable_0 : decode cX9_findReachable 0 = .ok (.aload_n 0, 1) := by decide +kernel
theorem dX9_findReachable_1 : decode cX9_findReachable 1 = .ok (.iconst 1, 1) := by decide +kernel
theorem dX9_findReachable_2 : decode cX9_findReachable 2 = .ok (.aload_n 1, 1) := by decide +kernel
theorem dX9_findReachable_3 : decode cX9_findReachable 3 = .ok (.invokevirtual 100, 3) := by decide +kernel
theorem dX9_findReachable_6 : decode cX9_findReachable 6 = .ok (.ishl, 1) := by decide +kernel
theorem dX9_findReachable_7 : decode cX9_findReachable 7 = .ok (.putfield 34, 3) := by decide +kernel
theorem dX9_findReachable_10 : decode cX9_findReachable 10 = .ok (.aload_n 0, 1) := by decide +kernel
theorem dX9_findReachable_11 : decode cX9_findReachable 11 = .ok (.iconst 0, 1) := by decide +kernel
theorem dX9_findReachable_12 : decode cX9_findReachable 12 = .ok (.putfield 31, 3) := by decide +kernel
theorem dX9_findReachable_15 : decode cX9_findReachable 15 = .ok (.iconst 0, 1) := by decide +kernel
theorem dX9_findReachable_16 : decode cX9_findReachable 16 = .ok (.istore_n 2, 1) := by decide +kernel
theorem dX9_findReachable_17 : decode cX9_findReachable 17 = .ok (.iload_n 2, 1) := by decide +kernel
theorem dX9_findReachable_18 : decode cX9_findReachable 18 = .ok (.bipush 6, 2) := by decide +kernel
theorem dX9_findReachable_20 : decode cX9_findReachable 20 = .ok (.if_icmp .ge 47, 3) := by decide +kernel
theorem dX9_findReachable_23 : decode cX9_findReachable 23 = .ok (.iconst 0, 1) := by decide +kernel
theorem dX9_findReachable_24 : decode cX9_findReachable 24 = .ok (.istore_n 3, 1) := by decide +kernel
theorem dX9_findReachable_25 : decode cX9_findReachable 25 = .ok (.iload_n 3, 1) := by decide +kernel
theorem dX9_findReachable_26 : decode cX9_findReachable 26 = .ok (.aload_n 1, 1) := by decide +kernel
theorem dX9_findReachable_27 : decode cX9_findReachable 27 = .ok (.invokevirtual 67, 3) := by decide +kernel
theorem dX9_findReachable_30 : decode cX9_findReachable 30 = .ok (.if_icmp .ge 31, 3) := by decide +kernel
theorem dX9_findReachable_33 : decode cX9_findReachable 33 = .ok (.aload_n 0, 1) := by decide +kernel
theorem dX9_findReachable_34 : decode cX9_findReachable 34 = .ok (.getfield 34, 3) := by decide +kernel
theorem dX9_findReachable_37 : decode cX9_findReachable 37 = .ok (.aload_n 1, 1) := by decide +kernel
theorem dX9_findReachable_38 : decode cX9_findReachable 38 = .ok (.iload_n 3, 1) := by decide +kernel
theorem dX9_findReachable_39 : decode cX9_findReachable 39 = .ok (.invokevirtual 77, 3) := by decide +kernel
theorem dX9_findReachable_42 : decode cX9_findReachable 42 = .ok (.invokestatic 103, 3) := by decide +kernel
theorem dX9_findReachable_45 : decode cX9_findReachable 45 = .ok (.iconst 1, 1) := by decide +kernel
theorem dX9_findReachable_46 : decode cX9_findReachable 46 = .ok (.if_icmp .ne 9, 3) := by decide +kernel
theorem dX9_findReachable_49 : decode cX9_findReachable 49 = .ok (.aload_n 0, 1) := by decide +kernel
theorem dX9_findReachable_50 : decode cX9_findReachable 50 = .ok (.aload_n 1, 1) := by decide +kernel
theorem dX9_findReachable_51 : decode cX9_findReachable 51 = .ok (.iload_n 3, 1) := by decide +kernel
theorem dX9_findReachable_52 : decode cX9_findReachable 52 = .ok (.invokevirtual 106, 3) := by decide +kernel
theorem dX9_findReachable_55 : decode cX9_findReachable 55 = .ok (.iinc 3 1, 3) := by decide +kernel
theorem dX9_findReachable_58 : decode cX9_findReachable 58 = .ok (.goto (-33), 3) := by decide +kernel
theorem dX9_findReachable_61 : decode cX9_findReachable 61 = .ok (.iinc 2 1, 3) := by decide +kernel
theorem dX9_findReachable_64 : decode cX9_findReachable 64 = .ok (.goto (-47), 3) := by decide +kernel
theorem dX9_findReachable_67 : decode cX9_findReachable 67 = .ok (.return_, 1) := by decide +kernel
theorem dX9_reachRight_0 : decode cX9_reachRight 0 = .ok (.iconst 0, 1) := by decide +kernel
theorem dX9_reachRight_1 : decode cX9_reachRight 1 = .ok (.istore_n 3, 1) := by decide +kernel
theorem dX9_reachRight_2 : decode cX9_reachRight 2 = .ok (.iload_n 3, 1) := by decide +kernel
theorem dX9_reachRight_3 : decode cX9_reachRight 3 = .ok (.aload_n 1, 1) := by decide +kernel
theorem dX9_reachRight_4 : decode cX9_reachRight 4 = .ok (.iload_n 2, 1) := by decide +kernel
theorem dX9_reachRight_5 : decode cX9_reachRight 5 = .ok (.invokevirtual 90, 3) := by decide +kernel
theorem dX9_reachRight_8 : decode cX9_reachRight 8 = .ok (.if_icmp .ge 57, 3) := by decide +kernel
theorem dX9_reachRight_11 : decode cX9_reachRight 11 = .ok (.aload_n 1, 1) := by decide +kernel
theorem dX9_reachRight_12 : decode cX9_reachRight 12 = .ok (.iload_n 2, 1) := by decide +kernel
theorem dX9_reachRight_13 : decode cX9_reachRight 13 = .ok (.iload_n 3, 1) := by decide +kernel
theorem dX9_reachRight_14 : decode cX9_reachRight 14 = .ok (.invokevirtual 93, 3) := by decide +kernel
theorem dX9_reachRight_17 : decode cX9_reachRight 17 = .ok (.istore 4, 2) := by decide +kernel
theorem dX9_reachRight_19 : decode cX9_reachRight 19 = .ok (.iload 4, 2) := by decide +kernel
theorem dX9_reachRight_21 : decode cX9_reachRight 21 = .ok (.invokestatic 96, 3) := by decide +kernel
theorem dX9_reachRight_24 : decode cX9_reachRight 24 = .ok (.ifCond .eq 19, 3) := by decide +kernel
theorem dX9_reachRight_27 : decode cX9_reachRight 27 = .ok (.aload_n 0, 1) := by decide +kernel
theorem dX9_reachRight_28 : decode cX9_reachRight 28 = .ok (.dup, 1) := by decide +kernel
theorem dX9_reachRight_29 : decode cX9_reachRight 29 = .ok (.getfield 31, 3) := by decide +kernel
theorem dX9_reachRight_32 : decode cX9_reachRight 32 = .ok (.iconst 1, 1) := by decide +kernel
theorem dX9_reachRight_33 : decode cX9_reachRight 33 = .ok (.iload 4, 2) := by decide +kernel
theorem dX9_reachRight_35 : decode cX9_reachRight 35 = .ok (.ishl, 1) := by decide +kernel
theorem dX9_reachRight_36 : decode cX9_reachRight 36 = .ok (.ior, 1) := by decide +kernel
theorem dX9_reachRight_37 : decode cX9_reachRight 37 = .ok (.putfield 31, 3) := by decide +kernel
theorem dX9_reachRight_40 : decode cX9_reachRight 40 = .ok (.goto 19, 3) := by decide +kernel
theorem dX9_reachRight_43 : decode cX9_reachRight 43 = .ok (.aload_n 0, 1) := by decide +kernel
theorem dX9_reachRight_44 : decode cX9_reachRight 44 = .ok (.dup, 1) := by decide +kernel
theorem dX9_reachRight_45 : decode cX9_reachRight 45 = .ok (.getfield 34, 3) := by decide +kernel
theorem dX9_reachRight_48 : decode cX9_reachRight 48 = .ok (.iconst 1, 1) := by decide +kernel
theorem dX9_reachRight_49 : decode cX9_reachRight 49 = .ok (.iload 4, 2) := by decide +kernel
theorem dX9_reachRight_51 : decode cX9_reachRight 51 = .ok (.bipush 10, 2) := by decide +kernel
theorem dX9_reachRight_53 : decode cX9_reachRight 53 = .ok (.isub, 1) := by decide +kernel
theorem dX9_reachRight_54 : decode cX9_reachRight 54 = .ok (.ishl, 1) := by decide +kernel
theorem dX9_reachRight_55 : decode cX9_reachRight 55 = .ok (.ior, 1) := by decide +kernel
theorem dX9_reachRight_56 : decode cX9_reachRight 56 = .ok (.putfield 34, 3) := by decide +kernel
theorem dX9_reachRight_59 : decode cX9_reachRight 59 = .ok (.iinc 3 1, 3) := by decide +kernel
theorem dX9_reachRight_62 : decode cX9_reachRight 62 = .ok (.goto (-60), 3) := by decide +kernel
theorem dX9_reachRight_65 : decode cX9_reachRight 65 = .ok (.return_, 1) := by decide +kernel
theorem dX9_findRelations_0 : decode cX9_findRelations 0 = .ok (.aload_n 0, 1) := by decide +kernel
theorem dX9_findRelations_1 : decode cX9_findRelations 1 = .ok (.getfield 18, 3) := by decide +kernel
theorem dX9_findRelations_4 : decode cX9_findRelations 4 = .ok (.iconst 0, 1) := by decide +kernel
theorem dX9_findRelations_5 : decode cX9_findRelations 5 = .ok (.invokestatic 61, 3) := by decide +kernel
theorem dX9_findRelations_8 : decode cX9_findRelations 8 = .ok (.aload_n 0, 1) := by decide +kernel
theorem dX9_findRelations_9 : decode cX9_findRelations 9 = .ok (.getfield 21, 3) := by decide +kernel
theorem dX9_findRelations_12 : decode cX9_findRelations 12 = .ok (.iconst 0, 1) := by decide +kernel
theorem dX9_findRelations_13 : decode cX9_findRelations 13 = .ok (.invokestatic 61, 3) := by decide +kernel
theorem dX9_findRelations_16 : decode cX9_findRelations 16 = .ok (.iconst 0, 1) := by decide +kernel
theorem dX9_findRelations_17 : decode cX9_findRelations 17 = .ok (.istore_n 2, 1) := by decide +kernel
theorem dX9_findRelations_18 : decode cX9_findRelations 18 = .ok (.iload_n 2, 1) := by decide +kernel
theorem dX9_findRelations_19 : decode cX9_findRelations 19 = .ok (.aload_n 1, 1) := by decide +kernel
theorem dX9_findRelations_20 : decode cX9_findRelations 20 = .ok (.invokevirtual 67, 3) := by decide +kernel
theorem dX9_findRelations_23 : decode cX9_findRelations 23 = .ok (.if_icmp .ge 15, 3) := by decide +kernel
theorem dX9_findRelations_26 : decode cX9_findRelations 26 = .ok (.aload_n 0, 1) := by decide +kernel
theorem dX9_findRelations_27 : decode cX9_findRelations 27 = .ok (.aload_n 1, 1) := by decide +kernel
theorem dX9_findRelations_28 : decode cX9_findRelations 28 = .ok (.iload_n 2, 1) := by decide +kernel
theorem dX9_findRelations_29 : decode cX9_findRelations 29 = .ok (.invokevirtual 109, 3) := by decide +kernel
theorem dX9_findRelations_32 : decode cX9_findRelations 32 = .ok (.iinc 2 1, 3) := by decide +kernel
theorem dX9_findRelations_35 : decode cX9_findRelations 35 = .ok (.goto (-17), 3) := by decide +kernel
theorem dX9_findRelations_38 : decode cX9_findRelations 38 = .ok (.return_, 1) := by decide +kernel
theorem dX9_relateRight_0 : decode cX9_relateRight 0 = .ok (.aload_n 1, 1) := by decide +kernel
theorem dX9_relateRight_1 : decode cX9_relateRight 1 = .ok (.iload_n 2, 1) := by decide +kernel
theorem dX9_relateRight_2 : decode cX9_relateRight 2 = .ok (.invokevirtual 77, 3) := by decide +kernel
theorem dX9_relateRight_5 : decode cX9_relateRight 5 = .ok (.istore_n 3, 1) := by decide +kernel
theorem dX9_relateRight_6 : decode cX9_relateRight 6 = .ok (.iconst 0, 1) := by decide +kernel
theorem dX9_relateRight_7 : decode cX9_relateRight 7 = .ok (.istore 4, 2) := by decide +kernel
theorem dX9_relateRight_9 : decode cX9_relateRight 9 = .ok (.iload 4, 2) := by decide +kernel
theorem dX9_relateRight_11 : decode cX9_relateRight 11 = .ok (.aload_n 1, 1) := by decide +kernel
theorem dX9_relateRight_12 : decode cX9_relateRight 12 = .ok (.iload_n 2, 1) := by decide +kernel
theorem dX9_relateRight_13 : decode cX9_relateRight 13 = .ok (.invokevirtual 90, 3) := by decide +kernel
theorem dX9_relateRight_16 : decode cX9_relateRight 16 = .ok (.if_icmp .ge 83, 3) := by decide +kernel
theorem dX9_relateRight_19 : decode cX9_relateRight 19 = .ok (.aload_n 1, 1) := by decide +kernel
theorem dX9_relateRight_20 : decode cX9_relateRight 20 = .ok (.iload_n 2, 1) := by decide +kernel
theorem dX9_relateRight_21 : decode cX9_relateRight 21 = .ok (.iload 4, 2) := by decide +kernel
theorem dX9_relateRight_23 : decode cX9_relateRight 23 = .ok (.invokevirtual 93, 3) := by decide +kernel
theorem dX9_relateRight_26 : decode cX9_relateRight 26 = .ok (.istore 5, 2) := by decide +kernel
theorem dX9_relateRight_28 : decode cX9_relateRight 28 = .ok (.iload 5, 2) := by decide +kernel
theorem dX9_relateRight_30 : decode cX9_relateRight 30 = .ok (.invokestatic 96, 3) := by decide +kernel
theorem dX9_relateRight_33 : decode cX9_relateRight 33 = .ok (.ifCond .eq 4, 3) := by decide +kernel
theorem dX9_relateRight_36 : decode cX9_relateRight 36 = .ok (.return_, 1) := by decide +kernel
theorem dX9_relateRight_37 : decode cX9_relateRight 37 = .ok (.iload 5, 2) := by decide +kernel
theorem dX9_relateRight_39 : decode cX9_relateRight 39 = .ok (.bipush 10, 2) := by decide +kernel
theorem dX9_relateRight_41 : decode cX9_relateRight 41 = .ok (.isub, 1) := by decide +kernel
theorem dX9_relateRight_42 : decode cX9_relateRight 42 = .ok (.istore 6, 2) := by decide +kernel
theorem dX9_relateRight_44 : decode cX9_relateRight 44 = .ok (.aload_n 0, 1) := by decide +kernel
theorem dX9_relateRight_45 : decode cX9_relateRight 45 = .ok (.getfield 18, 3) := by decide +kernel
theorem dX9_relateRight_48 : decode cX9_relateRight 48 = .ok (.iload_n 3, 1) := by decide +kernel
theorem dX9_relateRight_49 : decode cX9_relateRight 49 = .ok (.dup2, 1) := by decide +kernel
theorem dX9_relateRight_50 : decode cX9_relateRight 50 = .ok (.iaload, 1) := by decide +kernel
theorem dX9_relateRight_51 : decode cX9_relateRight 51 = .ok (.iconst 1, 1) := by decide +kernel
theorem dX9_relateRight_52 : decode cX9_relateRight 52 = .ok (.iload 6, 2) := by decide +kernel
theorem dX9_relateRight_54 : decode cX9_relateRight 54 = .ok (.ishl, 1) := by decide +kernel
theorem dX9_relateRight_55 : decode cX9_relateRight 55 = .ok (.ior, 1) := by decide +kernel
theorem dX9_relateRight_56 : decode cX9_relateRight 56 = .ok (.iastore, 1) := by decide +kernel
theorem dX9_relateRight_57 : decode cX9_relateRight 57 = .ok (.aload_n 0, 1) := by decide +kernel
theorem dX9_relateRight_58 : decode cX9_relateRight 58 = .ok (.iload_n 2, 1) := by decide +kernel
theorem dX9_relateRight_59 : decode cX9_relateRight 59 = .ok (.iload 4, 2) := by decide +kernel
theorem dX9_relateRight_61 : decode cX9_relateRight 61 = .ok (.iconst 1, 1) := by decide +kernel
theorem dX9_relateRight_62 : decode cX9_relateRight 62 = .ok (.iadd, 1) := by decide +kernel
theorem dX9_relateRight_63 : decode cX9_relateRight 63 = .ok (.invokevirtual 81, 3) := by decide +kernel
theorem dX9_relateRight_66 : decode cX9_relateRight 66 = .ok (.ifCond .ne 16, 3) := by decide +kernel
theorem dX9_relateRight_69 : decode cX9_relateRight 69 = .ok (.aload_n 0, 1) := by decide +kernel
theorem dX9_relateRight_70 : decode cX9_relateRight 70 = .ok (.getfield 21, 3) := by decide +kernel
theorem dX9_relateRight_73 : decode cX9_relateRight 73 = .ok (.iload_n 3, 1) := by decide +kernel
theorem dX9_relateRight_74 : decode cX9_relateRight 74 = .ok (.dup2, 1) := by decide +kernel
theorem dX9_relateRight_75 : decode cX9_relateRight 75 = .ok (.iaload, 1) := by decide +kernel
theorem dX9_relateRight_76 : decode cX9_relateRight 76 = .ok (.iconst 1, 1) := by decide +kernel
theorem dX9_relateRight_77 : decode cX9_relateRight 77 = .ok (.iload 6, 2) := by decide +kernel
theorem dX9_relateRight_79 : decode cX9_relateRight 79 = .ok (.ishl, 1) := by decide +kernel
theorem dX9_relateRight_80 : decode cX9_relateRight 80 = .ok (.ior, 1) := by decide +kernel
theorem dX9_relateRight_81 : decode cX9_relateRight 81 = .ok (.iastore, 1) := by decide +kernel
theorem dX9_relateRight_82 : decode cX9_relateRight 82 = .ok (.aload_n 0, 1) := by decide +kernel
theorem dX9_relateRight_83 : decode cX9_relateRight 83 = .ok (.getfield 9, 3) := by decide +kernel
theorem dX9_relateRight_86 : decode cX9_relateRight 86 = .ok (.iload 6, 2) := by decide +kernel
theorem dX9_relateRight_88 : decode cX9_relateRight 88 = .ok (.iaload, 1) := by decide +kernel
theorem dX9_relateRight_89 : decode cX9_relateRight 89 = .ok (.ifCond .eq 4, 3) := by decide +kernel
theorem dX9_relateRight_92 : decode cX9_relateRight 92 = .ok (.return_, 1) := by decide +kernel
theorem dX9_relateRight_93 : decode cX9_relateRight 93 = .ok (.iinc 4 1, 3) := by decide +kernel
theorem dX9_relateRight_96 : decode cX9_relateRight 96 = .ok (.goto (-87), 3) := by decide +kernel
theorem dX9_relateRight_99 : decode cX9_relateRight 99 = .ok (.return_, 1) := by decide +kernel
theorem dX9_findLoops_0 : decode cX9_findLoops 0 = .ok (.iconst 0, 1) := by decide +kernel
theorem dX9_findLoops_1 : decode cX9_findLoops 1 = .ok (.istore_n 1, 1) := by decide +kernel
theorem dX9_findLoops_2 : decode cX9_findLoops 2 = .ok (.iload_n 1, 1) := by decide +kernel
theorem dX9_findLoops_3 : decode cX9_findLoops 3 = .ok (.bipush 6, 2) := by decide +kernel
theorem dX9_findLoops_5 : decode cX9_findLoops 5 = .ok (.if_icmp .ge 43, 3) := by decide +kernel
theorem dX9_findLoops_8 : decode cX9_findLoops 8 = .ok (.iconst 0, 1) := by decide +kernel
theorem dX9_findLoops_9 : decode cX9_findLoops 9 = .ok (.istore_n 2, 1) := by decide +kernel
theorem dX9_findLoops_10 : decode cX9_findLoops 10 = .ok (.iload_n 2, 1) := by decide +kernel
theorem dX9_findLoops_11 : decode cX9_findLoops 11 = .ok (.bipush 6, 2) := by decide +kernel
theorem dX9_findLoops_13 : decode cX9_findLoops 13 = .ok (.if_icmp .ge 29, 3) := by decide +kernel
theorem dX9_findLoops_16 : decode cX9_findLoops 16 = .ok (.aload_n 0, 1) := by decide +kernel
theorem dX9_findLoops_17 : decode cX9_findLoops 17 = .ok (.iload_n 2, 1) := by decide +kernel
theorem dX9_findLoops_18 : decode cX9_findLoops 18 = .ok (.iaload, 1) := by decide +kernel
theorem dX9_findLoops_19 : decode cX9_findLoops 19 = .ok (.iload_n 1, 1) := by decide +kernel
theorem dX9_findLoops_20 : decode cX9_findLoops 20 = .ok (.invokestatic 103, 3) := by decide +kernel
theorem dX9_findLoops_23 : decode cX9_findLoops 23 = .ok (.iconst 1, 1) := by decide +kernel
theorem dX9_findLoops_24 : decode cX9_findLoops 24 = .ok (.if_icmp .ne 12, 3) := by decide +kernel
theorem dX9_findLoops_27 : decode cX9_findLoops 27 = .ok (.aload_n 0, 1) := by decide +kernel
theorem dX9_findLoops_28 : decode cX9_findLoops 28 = .ok (.iload_n 2, 1) := by decide +kernel
theorem dX9_findLoops_29 : decode cX9_findLoops 29 = .ok (.dup2, 1) := by decide +kernel
theorem dX9_findLoops_30 : decode cX9_findLoops 30 = .ok (.iaload, 1) := by decide +kernel
theorem dX9_findLoops_31 : decode cX9_findLoops 31 = .ok (.aload_n 0, 1) := by decide +kernel
theorem dX9_findLoops_32 : decode cX9_findLoops 32 = .ok (.iload_n 1, 1) := by decide +kernel
theorem dX9_findLoops_33 : decode cX9_findLoops 33 = .ok (.iaload, 1) := by decide +kernel
theorem dX9_findLoops_34 : decode cX9_findLoops 34 = .ok (.ior, 1) := by decide +kernel
theorem dX9_findLoops_35 : decode cX9_findLoops 35 = .ok (.iastore, 1) := by decide +kernel
theorem dX9_findLoops_36 : decode cX9_findLoops 36 = .ok (.iinc 2 1, 3) := by decide +kernel
theorem dX9_findLoops_39 : decode cX9_findLoops 39 = .ok (.goto (-29), 3) := by decide +kernel
theorem dX9_findLoops_42 : decode cX9_findLoops 42 = .ok (.iinc 1 1, 3) := by decide +kernel
theorem dX9_findLoops_45 : decode cX9_findLoops 45 = .ok (.goto (-43), 3) := by decide +kernel
theorem dX9_findLoops_48 : decode cX9_findLoops 48 = .ok (.iconst 0, 1) := by decide +kernel
theorem dX9_findLoops_49 : decode cX9_findLoops 49 = .ok (.istore_n 1, 1) := by decide +kernel
theorem dX9_findLoops_50 : decode cX9_findLoops 50 = .ok (.iconst 0, 1) := by decide +kernel
theorem dX9_findLoops_51 : decode cX9_findLoops 51 = .ok (.istore_n 2, 1) := by decide +kernel
theorem dX9_findLoops_52 : decode cX9_findLoops 52 = .ok (.iload_n 2, 1) := by decide +kernel
theorem dX9_findLoops_53 : decode cX9_findLoops 53 = .ok (.bipush 6, 2) := by decide +kernel
theorem dX9_findLoops_55 : decode cX9_findLoops 55 = .ok (.if_icmp .ge 19, 3) := by decide +kernel
theorem dX9_findLoops_58 : decode cX9_findLoops 58 = .ok (.iload_n 1, 1) := by decide +kernel
theorem dX9_findLoops_59 : decode cX9_findLoops 59 = .ok (.aload_n 0, 1) := by decide +kernel
theorem dX9_findLoops_60 : decode cX9_findLoops 60 = .ok (.iload_n 2, 1) := by decide +kernel
theorem dX9_findLoops_61 : decode cX9_findLoops 61 = .ok (.iaload, 1) := by decide +kernel
theorem dX9_findLoops_62 : decode cX9_findLoops 62 = .ok (.iconst 1, 1) := by decide +kernel
theorem dX9_findLoops_63 : decode cX9_findLoops 63 = .ok (.iload_n 2, 1) := by decide +kernel
theorem dX9_findLoops_64 : decode cX9_findLoops 64 = .ok (.ishl, 1) := by decide +kernel
theorem dX9_findLoops_65 : decode cX9_findLoops 65 = .ok (.iand, 1) := by decide +kernel
theorem dX9_findLoops_66 : decode cX9_findLoops 66 = .ok (.ior, 1) := by decide +kernel
theorem dX9_findLoops_67 : decode cX9_findLoops 67 = .ok (.istore_n 1, 1) := by decide +kernel
theorem dX9_findLoops_68 : decode cX9_findLoops 68 = .ok (.iinc 2 1, 3) := by decide +kernel
theorem dX9_findLoops_71 : decode cX9_findLoops 71 = .ok (.goto (-19), 3) := by decide +kernel
theorem dX9_findLoops_74 : decode cX9_findLoops 74 = .ok (.iload_n 1, 1) := by decide +kernel
theorem dX9_findLoops_75 : decode cX9_findLoops 75 = .ok (.ireturn, 1) := by decide +kernel
theorem dX9_findOrder_0 : decode cX9_findOrder 0 = .ok (.aload_n 0, 1) := by decide +kernel
theorem dX9_findOrder_1 : decode cX9_findOrder 1 = .ok (.iconst 0, 1) := by decide +kernel
theorem dX9_findOrder_2 : decode cX9_findOrder 2 = .ok (.putfield 27, 3) := by decide +kernel
theorem dX9_findOrder_5 : decode cX9_findOrder 5 = .ok (.iconst 0, 1) := by decide +kernel
theorem dX9_findOrder_6 : decode cX9_findOrder 6 = .ok (.istore_n 1, 1) := by decide +kernel
theorem dX9_findOrder_7 : decode cX9_findOrder 7 = .ok (.iload_n 1, 1) := by decide +kernel
theorem dX9_findOrder_8 : decode cX9_findOrder 8 = .ok (.bipush 6, 2) := by decide +kernel
theorem dX9_findOrder_10 : decode cX9_findOrder 10 = .ok (.if_icmp .gt 77, 3) := by decide +kernel
theorem dX9_findOrder_13 : decode cX9_findOrder 13 = .ok (.iconst 0, 1) := by decide +kernel
theorem dX9_findOrder_14 : decode cX9_findOrder 14 = .ok (.istore_n 2, 1) := by decide +kernel
theorem dX9_findOrder_15 : decode cX9_findOrder 15 = .ok (.iload_n 2, 1) := by decide +kernel
theorem dX9_findOrder_16 : decode cX9_findOrder 16 = .ok (.bipush 6, 2) := by decide +kernel
theorem dX9_findOrder_18 : decode cX9_findOrder 18 = .ok (.if_icmp .ge 63, 3) := by decide +kernel
theorem dX9_findOrder_21 : decode cX9_findOrder 21 = .ok (.aload_n 0, 1) := by decide +kernel
theorem dX9_findOrder_22 : decode cX9_findOrder 22 = .ok (.getfield 34, 3) := by decide +kernel
theorem dX9_findOrder_25 : decode cX9_findOrder 25 = .ok (.iload_n 2, 1) := by decide +kernel
theorem dX9_findOrder_26 : decode cX9_findOrder 26 = .ok (.invokestatic 103, 3) := by decide +kernel
theorem dX9_findOrder_29 : decode cX9_findOrder 29 = .ok (.iconst 1, 1) := by decide +kernel
theorem dX9_findOrder_30 : decode cX9_findOrder 30 = .ok (.if_icmp .ne 45, 3) := by decide +kernel
theorem dX9_findOrder_33 : decode cX9_findOrder 33 = .ok (.aload_n 0, 1) := by decide +kernel
theorem dX9_findOrder_34 : decode cX9_findOrder 34 = .ok (.getfield 21, 3) := by decide +kernel
theorem dX9_findOrder_37 : decode cX9_findOrder 37 = .ok (.iload_n 2, 1) := by decide +kernel
theorem dX9_findOrder_38 : decode cX9_findOrder 38 = .ok (.iaload, 1) := by decide +kernel
theorem dX9_findOrder_39 : decode cX9_findOrder 39 = .ok (.invokestatic 112, 3) := by decide +kernel
theorem dX9_findOrder_42 : decode cX9_findOrder 42 = .ok (.iload_n 1, 1) := by decide +kernel
theorem dX9_findOrder_43 : decode cX9_findOrder 43 = .ok (.if_icmp .ne 32, 3) := by decide +kernel
theorem dX9_findOrder_46 : decode cX9_findOrder 46 = .ok (.aload_n 0, 1) := by decide +kernel
theorem dX9_findOrder_47 : decode cX9_findOrder 47 = .ok (.getfield 27, 3) := by decide +kernel
theorem dX9_findOrder_50 : decode cX9_findOrder 50 = .ok (.bipush 6, 2) := by decide +kernel
theorem dX9_findOrder_52 : decode cX9_findOrder 52 = .ok (.if_icmp .ge 23, 3) := by decide +kernel
theorem dX9_findOrder_55 : decode cX9_findOrder 55 = .ok (.aload_n 0, 1) := by decide +kernel
theorem dX9_findOrder_56 : decode cX9_findOrder 56 = .ok (.getfield 24, 3) := by decide +kernel
theorem dX9_findOrder_59 : decode cX9_findOrder 59 = .ok (.aload_n 0, 1) := by decide +kernel
theorem dX9_findOrder_60 : decode cX9_findOrder 60 = .ok (.getfield 27, 3) := by decide +kernel
theorem dX9_findOrder_63 : decode cX9_findOrder 63 = .ok (.iload_n 2, 1) := by decide +kernel
theorem dX9_findOrder_64 : decode cX9_findOrder 64 = .ok (.iastore, 1) := by decide +kernel
theorem dX9_findOrder_65 : decode cX9_findOrder 65 = .ok (.aload_n 0, 1) := by decide +kernel
theorem dX9_findOrder_66 : decode cX9_findOrder 66 = .ok (.dup, 1) := by decide +kernel
theorem dX9_findOrder_67 : decode cX9_findOrder 67 = .ok (.getfield 27, 3) := by decide +kernel
theorem dX9_findOrder_70 : decode cX9_findOrder 70 = .ok (.iconst 1, 1) := by decide +kernel
theorem dX9_findOrder_71 : decode cX9_findOrder 71 = .ok (.iadd, 1) := by decide +kernel
theorem dX9_findOrder_72 : decode cX9_findOrder 72 = .ok (.putfield 27, 3) := by decide +kernel
theorem dX9_findOrder_75 : decode cX9_findOrder 75 = .ok (.iinc 2 1, 3) := by decide +kernel
theorem dX9_findOrder_78 : decode cX9_findOrder 78 = .ok (.goto (-63), 3) := by decide +kernel
theorem dX9_findOrder_81 : decode cX9_findOrder 81 = .ok (.iinc 1 1, 3) := by decide +kernel
theorem dX9_findOrder_84 : decode cX9_findOrder 84 = .ok (.goto (-77), 3) := by decide +kernel
theorem dX9_findOrder_87 : decode cX9_findOrder 87 = .ok (.return_, 1) := by decide +kernel
theorem dX10_init_0 : decode cX10_init 0 = .ok (.aload_n 0, 1) := by decide +kernel
theorem dX10_init_1 : decode cX10_init 1 = .ok (.invokespecial 3, 3) := by decide +kernel
theorem dX10_init_4 : decode cX10_init 4 = .ok (.aload_n 0, 1) := by decide +kernel
theorem dX10_init_5 : decode cX10_init 5 = .ok (.bipush 6, 2) := by decide +kernel
theorem dX10_init_7 : decode cX10_init 7 = .ok (.newarray .long, 2) := by decide +kernel
theorem dX10_init_9 : decode cX10_init 9 = .ok (.putfield 9, 3) := by decide +kernel
theorem dX10_init_12 : decode cX10_init 12 = .ok (.aload_n 0, 1) := by decide +kernel
theorem dX10_init_13 : decode cX10_init 13 = .ok (.lconst 0, 1) := by decide +kernel
theorem dX10_init_14 : decode cX10_init 14 = .ok (.putfield 15, 3) := by decide +kernel
theorem dX10_init_17 : decode cX10_init 17 = .ok (.aload_n 0, 1) := by decide +kernel
theorem dX10_init_18 : decode cX10_init 18 = .ok (.lconst 0, 1) := by decide +kernel
theorem dX10_init_19 : decode cX10_init 19 = .ok (.putfield 19, 3) := by decide +kernel
theorem dX10_init_22 : decode cX10_init 22 = .ok (.return_, 1) := by decide +kernel
theorem dX10_drop_0 : decode cX10_drop 0 = .ok (.aload_n 0, 1) := by decide +kernel
theorem dX10_drop_1 : decode cX10_drop 1 = .ok (.getfield 9, 3) := by decide +kernel
theorem dX10_drop_4 : decode cX10_drop 4 = .ok (.lconst 0, 1) := by decide +kernel
theorem dX10_drop_5 : decode cX10_drop 5 = .ok (.invokestatic 22, 3) := by decide +kernel
theorem dX10_drop_8 : decode cX10_drop 8 = .ok (.aload_n 0, 1) := by decide +kernel
theorem dX10_drop_9 : decode cX10_drop 9 = .ok (.lconst 0, 1) := by decide +kernel
theorem dX10_drop_10 : decode cX10_drop 10 = .ok (.putfield 15, 3) := by decide +kernel
theorem dX10_drop_13 : decode cX10_drop 13 = .ok (.aload_n 0, 1) := by decide +kernel
theorem dX10_drop_14 : decode cX10_drop 14 = .ok (.lconst 0, 1) := by decide +kernel
theorem dX10_drop_15 : decode cX10_drop 15 = .ok (.putfield 19, 3) := by decide +kernel
theorem dX10_drop_18 : decode cX10_drop 18 = .ok (.return_, 1) := by decide +kernel
theorem dX10_addEmptyWord_0 : decode cX10_addEmptyWord 0 = .ok (.aload_n 0, 1) := by decide +kernel
theorem dX10_addEmptyWord_1 : decode cX10_addEmptyWord 1 = .ok (.getfield 9, 3) := by decide +kernel
theorem dX10_addEmptyWord_4 : decode cX10_addEmptyWord 4 = .ok (.iconst 0, 1) := by decide +kernel
theorem dX10_addEmptyWord_5 : decode cX10_addEmptyWord 5 = .ok (.lconst 1, 1) := by decide +kernel
theorem dX10_addEmptyWord_6 : decode cX10_addEmptyWord 6 = .ok (.lastore, 1) := by decide +kernel
theorem dX10_addEmptyWord_7 : decode cX10_addEmptyWord 7 = .ok (.aload_n 0, 1) := by decide +kernel
theorem dX10_addEmptyWord_8 : decode cX10_addEmptyWord 8 = .ok (.dup, 1) := by decide +kernel
theorem dX10_addEmptyWord_9 : decode cX10_addEmptyWord 9 = .ok (.getfield 15, 3) := by decide +kernel
theorem dX10_addEmptyWord_12 : decode cX10_addEmptyWord 12 = .ok (.lconst 1, 1) := by decide +kernel
theorem dX10_addEmptyWord_13 : decode cX10_addEmptyWord 13 = .ok (.lor, 1) := by decide +kernel
theorem dX10_addEmptyWord_14 : decode cX10_addEmptyWord 14 = .ok (.putfield 15, 3) := by decide +kernel
theorem dX10_addEmptyWord_17 : decode cX10_addEmptyWord 17 = .ok (.aload_n 0, 1) := by decide +kernel
theorem dX10_addEmptyWord_18 : decode cX10_addEmptyWord 18 = .ok (.dup, 1) := by decide +kernel
theorem dX10_addEmptyWord_19 : decode cX10_addEmptyWord 19 = .ok (.getfield 19, 3) := by decide +kernel
theorem dX10_addEmptyWord_22 : decode cX10_addEmptyWord 22 = .ok (.lconst 1, 1) := by decide +kernel
theorem dX10_addEmptyWord_23 : decode cX10_addEmptyWord 23 = .ok (.lor, 1) := by decide +kernel
theorem dX10_addEmptyWord_24 : decode cX10_addEmptyWord 24 = .ok (.putfield 19, 3) := by decide +kernel
theorem dX10_addEmptyWord_27 : decode cX10_addEmptyWord 27 = .ok (.return_, 1) := by decide +kernel
theorem dX10_addLetter_0 : decode cX10_addLetter 0 = .ok (.iload_n 1, 1) := by decide +kernel
theorem dX10_addLetter_1 : decode cX10_addLetter 1 = .ok (.ifCond .lt 48, 3) := by decide +kernel
theorem dX10_addLetter_4 : decode cX10_addLetter 4 = .ok (.iload_n 1, 1) := by decide +kernel
theorem dX10_addLetter_5 : decode cX10_addLetter 5 = .ok (.iconst 5, 1) := by decide +kernel
theorem dX10_addLetter_6 : decode cX10_addLetter 6 = .ok (.if_icmp .ge 43, 3) := by decide +kernel
theorem dX10_addLetter_9 : decode cX10_addLetter 9 = .ok (.aload_n 0, 1) := by decide +kernel
theorem dX10_addLetter_10 : decode cX10_addLetter 10 = .ok (.getfield 9, 3) := by decide +kernel
theorem dX10_addLetter_13 : decode cX10_addLetter 13 = .ok (.iload_n 1, 1) := by decide +kernel
theorem dX10_addLetter_14 : decode cX10_addLetter 14 = .ok (.iconst 1, 1) := by decide +kernel
theorem dX10_addLetter_15 : decode cX10_addLetter 15 = .ok (.iadd, 1) := by decide +kernel
theorem dX10_addLetter_16 : decode cX10_addLetter 16 = .ok (.dup2, 1) := by decide +kernel
theorem dX10_addLetter_17 : decode cX10_addLetter 17 = .ok (.laload, 1) := by decide +kernel
theorem dX10_addLetter_18 : decode cX10_addLetter 18 = .ok (.lconst 1, 1) := by decide +kernel
theorem dX10_addLetter_19 : decode cX10_addLetter 19 = .ok (.lor, 1) := by decide +kernel
theorem dX10_addLetter_20 : decode cX10_addLetter 20 = .ok (.lastore, 1) := by decide +kernel
theorem dX10_addLetter_21 : decode cX10_addLetter 21 = .ok (.aload_n 0, 1) := by decide +kernel
theorem dX10_addLetter_22 : decode cX10_addLetter 22 = .ok (.dup, 1) := by decide +kernel
theorem dX10_addLetter_23 : decode cX10_addLetter 23 = .ok (.getfield 15, 3) := by decide +kernel
theorem dX10_addLetter_26 : decode cX10_addLetter 26 = .ok (.lconst 1, 1) := by decide +kernel
theorem dX10_addLetter_27 : decode cX10_addLetter 27 = .ok (.iload_n 1, 1) := by decide +kernel
theorem dX10_addLetter_28 : decode cX10_addLetter 28 = .ok (.iconst 1, 1) := by decide +kernel
theorem dX10_addLetter_29 : decode cX10_addLetter 29 = .ok (.iadd, 1) := by decide +kernel
theorem dX10_addLetter_30 : decode cX10_addLetter 30 = .ok (.lshl, 1) := by decide +kernel
theorem dX10_addLetter_31 : decode cX10_addLetter 31 = .ok (.lor, 1) := by decide +kernel
theorem dX10_addLetter_32 : decode cX10_addLetter 32 = .ok (.putfield 15, 3) := by decide +kernel
theorem dX10_addLetter_35 : decode cX10_addLetter 35 = .ok (.aload_n 0, 1) := by decide +kernel
theorem dX10_addLetter_36 : decode cX10_addLetter 36 = .ok (.dup, 1) := by decide +kernel
theorem dX10_addLetter_37 : decode cX10_addLetter 37 = .ok (.getfield 19, 3) := by decide +kernel
theorem dX10_addLetter_40 : decode cX10_addLetter 40 = .ok (.lconst 1, 1) := by decide +kernel
theorem dX10_addLetter_41 : decode cX10_addLetter 41 = .ok (.iload_n 1, 1) := by decide +kernel
theorem dX10_addLetter_42 : decode cX10_addLetter 42 = .ok (.iconst 1, 1) := by decide +kernel
theorem dX10_addLetter_43 : decode cX10_addLetter 43 = .ok (.iadd, 1) := by decide +kernel
theorem dX10_addLetter_44 : decode cX10_addLetter 44 = .ok (.lshl, 1) := by decide +kernel
theorem dX10_addLetter_45 : decode cX10_addLetter 45 = .ok (.lor, 1) := by decide +kernel
theorem dX10_addLetter_46 : decode cX10_addLetter 46 = .ok (.putfield 19, 3) := by decide +kernel
theorem dX10_addLetter_49 : decode cX10_addLetter 49 = .ok (.return_, 1) := by decide +kernel
theorem dX10_addAll_0 : decode cX10_addAll 0 = .ok (.iconst 0, 1) := by decide +kernel
theorem dX10_addAll_1 : decode cX10_addAll 1 = .ok (.istore_n 2, 1) := by decide +kernel
theorem dX10_addAll_2 : decode cX10_addAll 2 = .ok (.iconst 0, 1) := by decide +kernel
theorem dX10_addAll_3 : decode cX10_addAll 3 = .ok (.istore_n 3, 1) := by decide +kernel
theorem dX10_addAll_4 : decode cX10_addAll 4 = .ok (.iload_n 3, 1) := by decide +kernel
theorem dX10_addAll_5 : decode cX10_addAll 5 = .ok (.bipush 6, 2) := by decide +kernel
theorem dX10_addAll_7 : decode cX10_addAll 7 = .ok (.if_icmp .ge 48, 3) := by decide +kernel
theorem dX10_addAll_10 : decode cX10_addAll 10 = .ok (.aload_n 1, 1) := by decide +kernel
theorem dX10_addAll_11 : decode cX10_addAll 11 = .ok (.getfield 9, 3) := by decide +kernel
theorem dX10_addAll_14 : decode cX10_addAll 14 = .ok (.iload_n 3, 1) := by decide +kernel
theorem dX10_addAll_15 : decode cX10_addAll 15 = .ok (.laload, 1) := by decide +kernel
theorem dX10_addAll_16 : decode cX10_addAll 16 = .ok (.aload_n 0, 1) := by decide +kernel
theorem dX10_addAll_17 : decode cX10_addAll 17 = .ok (.getfield 9, 3) := by decide +kernel
theorem dX10_addAll_20 : decode cX10_addAll 20 = .ok (.iload_n 3, 1) := by decide +kernel
theorem dX10_addAll_21 : decode cX10_addAll 21 = .ok (.laload, 1) := by decide +kernel
theorem dX10_addAll_22 : decode cX10_addAll 22 = .ok (.ldc2_w 28, 3) := by decide +kernel
theorem dX10_addAll_25 : decode cX10_addAll 25 = .ok (.lxor, 1) := by decide +kernel
theorem dX10_addAll_26 : decode cX10_addAll 26 = .ok (.land, 1) := by decide +kernel
theorem dX10_addAll_27 : decode cX10_addAll 27 = .ok (.lconst 0, 1) := by decide +kernel
theorem dX10_addAll_28 : decode cX10_addAll 28 = .ok (.lcmp, 1) := by decide +kernel
theorem dX10_addAll_29 : decode cX10_addAll 29 = .ok (.ifCond .eq 20, 3) := by decide +kernel
theorem dX10_addAll_32 : decode cX10_addAll 32 = .ok (.aload_n 0, 1) := by decide +kernel
theorem dX10_addAll_33 : decode cX10_addAll 33 = .ok (.getfield 9, 3) := by decide +kernel
theorem dX10_addAll_36 : decode cX10_addAll 36 = .ok (.iload_n 3, 1) := by decide +kernel
theorem dX10_addAll_37 : decode cX10_addAll 37 = .ok (.dup2, 1) := by decide +kernel
theorem dX10_addAll_38 : decode cX10_addAll 38 = .ok (.laload, 1) := by decide +kernel
theorem dX10_addAll_39 : decode cX10_addAll 39 = .ok (.aload_n 1, 1) := by decide +kernel
theorem dX10_addAll_40 : decode cX10_addAll 40 = .ok (.getfield 9, 3) := by decide +kernel
theorem dX10_addAll_43 : decode cX10_addAll 43 = .ok (.iload_n 3, 1) := by decide +kernel
theorem dX10_addAll_44 : decode cX10_addAll 44 = .ok (.laload, 1) := by decide +kernel
theorem dX10_addAll_45 : decode cX10_addAll 45 = .ok (.lor, 1) := by decide +kernel
theorem dX10_addAll_46 : decode cX10_addAll 46 = .ok (.lastore, 1) := by decide +kernel
theorem dX10_addAll_47 : decode cX10_addAll 47 = .ok (.iconst 1, 1) := by decide +kernel
theorem dX10_addAll_48 : decode cX10_addAll 48 = .ok (.istore_n 2, 1) := by decide +kernel
theorem dX10_addAll_49 : decode cX10_addAll 49 = .ok (.iinc 3 1, 3) := by decide +kernel
theorem dX10_addAll_52 : decode cX10_addAll 52 = .ok (.goto (-48), 3) := by decide +kernel
theorem dX10_addAll_55 : decode cX10_addAll 55 = .ok (.aload_n 0, 1) := by decide +kernel
theorem dX10_addAll_56 : decode cX10_addAll 56 = .ok (.dup, 1) := by decide +kernel
theorem dX10_addAll_57 : decode cX10_addAll 57 = .ok (.getfield 15, 3) := by decide +kernel
theorem dX10_addAll_60 : decode cX10_addAll 60 = .ok (.aload_n 1, 1) := by decide +kernel
theorem dX10_addAll_61 : decode cX10_addAll 61 = .ok (.getfield 15, 3) := by decide +kernel
theorem dX10_addAll_64 : decode cX10_addAll 64 = .ok (.lor, 1) := by decide +kernel
theorem dX10_addAll_65 : decode cX10_addAll 65 = .ok (.putfield 15, 3) := by decide +kernel
theorem dX10_addAll_68 : decode cX10_addAll 68 = .ok (.aload_n 0, 1) := by decide +kernel
theorem dX10_addAll_69 : decode cX10_addAll 69 = .ok (.dup, 1) := by decide +kernel
theorem dX10_addAll_70 : decode cX10_addAll 70 = .ok (.getfield 19, 3) := by decide +kernel
theorem dX10_addAll_73 : decode cX10_addAll 73 = .ok (.aload_n 1, 1) := by decide +kernel
theorem dX10_addAll_74 : decode cX10_addAll 74 = .ok (.getfield 19, 3) := by decide +kernel
theorem dX10_addAll_77 : decode cX10_addAll 77 = .ok (.lor, 1) := by decide +kernel
theorem dX10_addAll_78 : decode cX10_addAll 78 = .ok (.putfield 19, 3) := by decide +kernel
theorem dX10_addAll_81 : decode cX10_addAll 81 = .ok (.iload_n 2, 1) := by decide +kernel
theorem dX10_addAll_82 : decode cX10_addAll 82 = .ok (.ireturn, 1) := by decide +kernel
theorem dX10_join_0 : decode cX10_join 0 = .ok (.aload_n 1, 1) := by decide +kernel
theorem dX10_join_1 : decode cX10_join 1 = .ok (.getfield 19, 3) := by decide +kernel
theorem dX10_join_4 : decode cX10_join 4 = .ok (.lconst 0, 1) := by decide +kernel
theorem dX10_join_5 : decode cX10_join 5 = .ok (.lcmp, 1) := by decide +kernel
theorem dX10_join_6 : decode cX10_join 6 = .ok (.ifCond .eq 12, 3) := by decide +kernel
theorem dX10_join_9 : decode cX10_join 9 = .ok (.aload_n 2, 1) := by decide +kernel
theorem dX10_join_10 : decode cX10_join 10 = .ok (.getfield 19, 3) := by decide +kernel
theorem dX10_join_13 : decode cX10_join 13 = .ok (.lconst 0, 1) := by decide +kernel
theorem dX10_join_14 : decode cX10_join 14 = .ok (.lcmp, 1) := by decide +kernel
theorem dX10_join_15 : decode cX10_join 15 = .ok (.ifCond .ne 8, 3) := by decide +kernel
theorem dX10_join_18 : decode cX10_join 18 = .ok (.aload_n 0, 1) := by decide +kernel
theorem dX10_join_19 : decode cX10_join 19 = .ok (.invokevirtual 30, 3) := by decide +kernel
theorem dX10_join_22 : decode cX10_join 22 = .ok (.return_, 1) := by decide +kernel
theorem dX10_join_23 : decode cX10_join 23 = .ok (.aload_n 1, 1) := by decide +kernel
theorem dX10_join_24 : decode cX10_join 24 = .ok (.getfield 9, 3) := by decide +kernel
theorem dX10_join_27 : decode cX10_join 27 = .ok (.iconst 0, 1) := by decide +kernel
theorem dX10_join_28 : decode cX10_join 28 = .ok (.laload, 1) := by decide +kernel
theorem dX10_join_29 : decode cX10_join 29 = .ok (.lconst 0, 1) := by decide +kernel
theorem dX10_join_30 : decode cX10_join 30 = .ok (.lcmp, 1) := by decide +kernel
theorem dX10_join_31 : decode cX10_join 31 = .ok (.ifCond .eq 7, 3) := by decide +kernel
theorem dX10_join_34 : decode cX10_join 34 = .ok (.iconst 1, 1) := by decide +kernel
theorem dX10_join_35 : decode cX10_join 35 = .ok (.goto 4, 3) := by decide +kernel
theorem dX10_join_38 : decode cX10_join 38 = .ok (.iconst 0, 1) := by decide +kernel
theorem dX10_join_39 : decode cX10_join 39 = .ok (.istore_n 3, 1) := by decide +kernel
theorem dX10_join_40 : decode cX10_join 40 = .ok (.aload_n 0, 1) := by decide +kernel
theorem dX10_join_41 : decode cX10_join 41 = .ok (.getfield 9, 3) := by decide +kernel
theorem dX10_join_44 : decode cX10_join 44 = .ok (.iconst 0, 1) := by decide +kernel
theorem dX10_join_45 : decode cX10_join 45 = .ok (.aload_n 1, 1) := by decide +kernel
theorem dX10_join_46 : decode cX10_join 46 = .ok (.getfield 9, 3) := by decide +kernel
theorem dX10_join_49 : decode cX10_join 49 = .ok (.iconst 0, 1) := by decide +kernel
theorem dX10_join_50 : decode cX10_join 50 = .ok (.laload, 1) := by decide +kernel
theorem dX10_join_51 : decode cX10_join 51 = .ok (.aload_n 2, 1) := by decide +kernel
theorem dX10_join_52 : decode cX10_join 52 = .ok (.getfield 9, 3) := by decide +kernel
theorem dX10_join_55 : decode cX10_join 55 = .ok (.iconst 0, 1) := by decide +kernel
theorem dX10_join_56 : decode cX10_join 56 = .ok (.laload, 1) := by decide +kernel
theorem dX10_join_57 : decode cX10_join 57 = .ok (.land, 1) := by decide +kernel
theorem dX10_join_58 : decode cX10_join 58 = .ok (.lastore, 1) := by decide +kernel
theorem dX10_join_59 : decode cX10_join 59 = .ok (.iconst 1, 1) := by decide +kernel
theorem dX10_join_60 : decode cX10_join 60 = .ok (.istore 4, 2) := by decide +kernel
theorem dX10_join_62 : decode cX10_join 62 = .ok (.iload 4, 2) := by decide +kernel
theorem dX10_join_64 : decode cX10_join 64 = .ok (.bipush 6, 2) := by decide +kernel
theorem dX10_join_66 : decode cX10_join 66 = .ok (.if_icmp .ge 43, 3) := by decide +kernel
theorem dX10_join_69 : decode cX10_join 69 = .ok (.aload_n 0, 1) := by decide +kernel
theorem dX10_join_70 : decode cX10_join 70 = .ok (.getfield 9, 3) := by decide +kernel
theorem dX10_join_73 : decode cX10_join 73 = .ok (.iload 4, 2) := by decide +kernel
theorem dX10_join_75 : decode cX10_join 75 = .ok (.aload_n 1, 1) := by decide +kernel
theorem dX10_join_76 : decode cX10_join 76 = .ok (.getfield 9, 3) := by decide +kernel
theorem dX10_join_79 : decode cX10_join 79 = .ok (.iload 4, 2) := by decide +kernel
theorem dX10_join_81 : decode cX10_join 81 = .ok (.laload, 1) := by decide +kernel
theorem dX10_join_82 : decode cX10_join 82 = .ok (.aload_n 2, 1) := by decide +kernel
theorem dX10_join_83 : decode cX10_join 83 = .ok (.invokestatic 33, 3) := by decide +kernel
theorem dX10_join_86 : decode cX10_join 86 = .ok (.iload_n 3, 1) := by decide +kernel
theorem dX10_join_87 : decode cX10_join 87 = .ok (.ifCond .eq 13, 3) := by decide +kernel
theorem dX10_join_90 : decode cX10_join 90 = .ok (.aload_n 2, 1) := by decide +kernel
theorem dX10_join_91 : decode cX10_join 91 = .ok (.getfield 9, 3) := by decide +kernel
theorem dX10_join_94 : decode cX10_join 94 = .ok (.iload 4, 2) := by decide +kernel
theorem dX10_join_96 : decode cX10_join 96 = .ok (.laload, 1) := by decide +kernel
theorem dX10_join_97 : decode cX10_join 97 = .ok (.goto 4, 3) := by decide +kernel
theorem dX10_join_100 : decode cX10_join 100 = .ok (.lconst 0, 1) := by decide +kernel
theorem dX10_join_101 : decode cX10_join 101 = .ok (.lor, 1) := by decide +kernel
theorem dX10_join_102 : decode cX10_join 102 = .ok (.lastore, 1) := by decide +kernel
theorem dX10_join_103 : decode cX10_join 103 = .ok (.iinc 4 1, 3) := by decide +kernel
theorem dX10_join_106 : decode cX10_join 106 = .ok (.goto (-44), 3) := by decide +kernel
theorem dX10_join_109 : decode cX10_join 109 = .ok (.aload_n 0, 1) := by decide +kernel
theorem dX10_join_110 : decode cX10_join 110 = .ok (.aload_n 1, 1) := by decide +kernel
theorem dX10_join_111 : decode cX10_join 111 = .ok (.getfield 15, 3) := by decide +kernel
theorem dX10_join_114 : decode cX10_join 114 = .ok (.aload_n 2, 1) := by decide +kernel
theorem dX10_join_115 : decode cX10_join 115 = .ok (.invokestatic 33, 3) := by decide +kernel
theorem dX10_join_118 : decode cX10_join 118 = .ok (.putfield 15, 3) := by decide +kernel
theorem dX10_join_121 : decode cX10_join 121 = .ok (.aload_n 0, 1) := by decide +kernel
theorem dX10_join_122 : decode cX10_join 122 = .ok (.aload_n 1, 1) := by decide +kernel
theorem dX10_join_123 : decode cX10_join 123 = .ok (.getfield 19, 3) := by decide +kernel
theorem dX10_join_126 : decode cX10_join 126 = .ok (.ldc2_w 37, 3) := by decide +kernel
theorem dX10_join_129 : decode cX10_join 129 = .ok (.land, 1) := by decide +kernel
theorem dX10_join_130 : decode cX10_join 130 = .ok (.iload_n 3, 1) := by decide +kernel
theorem dX10_join_131 : decode cX10_join 131 = .ok (.ifCond .eq 10, 3) := by decide +kernel
theorem dX10_join_134 : decode cX10_join 134 = .ok (.aload_n 2, 1) := by decide +kernel
theorem dX10_join_135 : decode cX10_join 135 = .ok (.getfield 19, 3) := by decide +kernel
theorem dX10_join_138 : decode cX10_join 138 = .ok (.goto 4, 3) := by decide +kernel
theorem dX10_join_141 : decode cX10_join 141 = .ok (.lconst 0, 1) := by decide +kernel
theorem dX10_join_142 : decode cX10_join 142 = .ok (.lor, 1) := by decide +kernel
theorem dX10_join_143 : decode cX10_join 143 = .ok (.putfield 19, 3) := by decide +kernel
theorem dX10_join_146 : decode cX10_join 146 = .ok (.return_, 1) := by decide +kernel
theorem dX10_joinPairs_0 : decode cX10_joinPairs 0 = .ok (.lload_n 0, 1) := by decide +kernel
theorem dX10_joinPairs_1 : decode cX10_joinPairs 1 = .ok (.ldc2_w 39, 3) := by decide +kernel
theorem dX10_joinPairs_4 : decode cX10_joinPairs 4 = .ok (.land, 1) := by decide +kernel
theorem dX10_joinPairs_5 : decode cX10_joinPairs 5 = .ok (.lstore_n 3, 1) := by decide +kernel
theorem dX10_joinPairs_6 : decode cX10_joinPairs 6 = .ok (.lload_n 0, 1) := by decide +kernel
theorem dX10_joinPairs_7 : decode cX10_joinPairs 7 = .ok (.lconst 1, 1) := by decide +kernel
theorem dX10_joinPairs_8 : decode cX10_joinPairs 8 = .ok (.land, 1) := by decide +kernel
theorem dX10_joinPairs_9 : decode cX10_joinPairs 9 = .ok (.lconst 0, 1) := by decide +kernel
theorem dX10_joinPairs_10 : decode cX10_joinPairs 10 = .ok (.lcmp, 1) := by decide +kernel
theorem dX10_joinPairs_11 : decode cX10_joinPairs 11 = .ok (.ifCond .eq 10, 3) := by decide +kernel
theorem dX10_joinPairs_14 : decode cX10_joinPairs 14 = .ok (.lload_n 3, 1) := by decide +kernel
theorem dX10_joinPairs_15 : decode cX10_joinPairs 15 = .ok (.aload_n 2, 1) := by decide +kernel
theorem dX10_joinPairs_16 : decode cX10_joinPairs 16 = .ok (.getfield 15, 3) := by decide +kernel
theorem dX10_joinPairs_19 : decode cX10_joinPairs 19 = .ok (.lor, 1) := by decide +kernel
theorem dX10_joinPairs_20 : decode cX10_joinPairs 20 = .ok (.lstore_n 3, 1) := by decide +kernel
theorem dX10_joinPairs_21 : decode cX10_joinPairs 21 = .ok (.lload_n 0, 1) := by decide +kernel
theorem dX10_joinPairs_22 : decode cX10_joinPairs 22 = .ok (.ldc2_w 41, 3) := by decide +kernel
theorem dX10_joinPairs_25 : decode cX10_joinPairs 25 = .ok (.land, 1) := by decide +kernel
theorem dX10_joinPairs_26 : decode cX10_joinPairs 26 = .ok (.lconst 0, 1) := by decide +kernel
theorem dX10_joinPairs_27 : decode cX10_joinPairs 27 = .ok (.lcmp, 1) := by decide +kernel
theorem dX10_joinPairs_28 : decode cX10_joinPairs 28 = .ok (.ifCond .ne 5, 3) := by decide +kernel
theorem dX10_joinPairs_31 : decode cX10_joinPairs 31 = .ok (.lload_n 3, 1) := by decide +kernel
theorem dX10_joinPairs_32 : decode cX10_joinPairs 32 = .ok (.lreturn, 1) := by decide +kernel
theorem dX10_joinPairs_33 : decode cX10_joinPairs 33 = .ok (.iconst 1, 1) := by decide +kernel
theorem dX10_joinPairs_34 : decode cX10_joinPairs 34 = .ok (.istore 5, 2) := by decide +kernel
theorem dX10_joinPairs_36 : decode cX10_joinPairs 36 = .ok (.iload 5, 2) := by decide +kernel
theorem dX10_joinPairs_38 : decode cX10_joinPairs 38 = .ok (.bipush 6, 2) := by decide +kernel
theorem dX10_joinPairs_40 : decode cX10_joinPairs 40 = .ok (.if_icmp .ge 49, 3) := by decide +kernel
theorem dX10_joinPairs_43 : decode cX10_joinPairs 43 = .ok (.lload_n 0, 1) := by decide +kernel
theorem dX10_joinPairs_44 : decode cX10_joinPairs 44 = .ok (.iload 5, 2) := by decide +kernel
theorem dX10_joinPairs_46 : decode cX10_joinPairs 46 = .ok (.lshr, 1) := by decide +kernel
theorem dX10_joinPairs_47 : decode cX10_joinPairs 47 = .ok (.lconst 1, 1) := by decide +kernel
theorem dX10_joinPairs_48 : decode cX10_joinPairs 48 = .ok (.land, 1) := by decide +kernel
theorem dX10_joinPairs_49 : decode cX10_joinPairs 49 = .ok (.lconst 0, 1) := by decide +kernel
theorem dX10_joinPairs_50 : decode cX10_joinPairs 50 = .ok (.lcmp, 1) := by decide +kernel
theorem dX10_joinPairs_51 : decode cX10_joinPairs 51 = .ok (.ifCond .eq 32, 3) := by decide +kernel
theorem dX10_joinPairs_54 : decode cX10_joinPairs 54 = .ok (.lload_n 3, 1) := by decide +kernel
theorem dX10_joinPairs_55 : decode cX10_joinPairs 55 = .ok (.aload_n 2, 1) := by decide +kernel
theorem dX10_joinPairs_56 : decode cX10_joinPairs 56 = .ok (.getfield 19, 3) := by decide +kernel
theorem dX10_joinPairs_59 : decode cX10_joinPairs 59 = .ok (.lconst 1, 1) := by decide +kernel
theorem dX10_joinPairs_60 : decode cX10_joinPairs 60 = .ok (.land, 1) := by decide +kernel
theorem dX10_joinPairs_61 : decode cX10_joinPairs 61 = .ok (.iload 5, 2) := by decide +kernel
theorem dX10_joinPairs_63 : decode cX10_joinPairs 63 = .ok (.lshl, 1) := by decide +kernel
theorem dX10_joinPairs_64 : decode cX10_joinPairs 64 = .ok (.lor, 1) := by decide +kernel
theorem dX10_joinPairs_65 : decode cX10_joinPairs 65 = .ok (.lstore_n 3, 1) := by decide +kernel
theorem dX10_joinPairs_66 : decode cX10_joinPairs 66 = .ok (.lload_n 3, 1) := by decide +kernel
theorem dX10_joinPairs_67 : decode cX10_joinPairs 67 = .ok (.aload_n 2, 1) := by decide +kernel
theorem dX10_joinPairs_68 : decode cX10_joinPairs 68 = .ok (.getfield 19, 3) := by decide +kernel
theorem dX10_joinPairs_71 : decode cX10_joinPairs 71 = .ok (.ldc2_w 41, 3) := by decide +kernel
theorem dX10_joinPairs_74 : decode cX10_joinPairs 74 = .ok (.land, 1) := by decide +kernel
theorem dX10_joinPairs_75 : decode cX10_joinPairs 75 = .ok (.bipush 6, 2) := by decide +kernel
theorem dX10_joinPairs_77 : decode cX10_joinPairs 77 = .ok (.iload 5, 2) := by decide +kernel
theorem dX10_joinPairs_79 : decode cX10_joinPairs 79 = .ok (.imul, 1) := by decide +kernel
theorem dX10_joinPairs_80 : decode cX10_joinPairs 80 = .ok (.lshl, 1) := by decide +kernel
theorem dX10_joinPairs_81 : decode cX10_joinPairs 81 = .ok (.lor, 1) := by decide +kernel
theorem dX10_joinPairs_82 : decode cX10_joinPairs 82 = .ok (.lstore_n 3, 1) := by decide +kernel
theorem dX10_joinPairs_83 : decode cX10_joinPairs 83 = .ok (.iinc 5 1, 3) := by decide +kernel
theorem dX10_joinPairs_86 : decode cX10_joinPairs 86 = .ok (.goto (-50), 3) := by decide +kernel
theorem dX10_joinPairs_89 : decode cX10_joinPairs 89 = .ok (.lload_n 3, 1) := by decide +kernel
theorem dX10_joinPairs_90 : decode cX10_joinPairs 90 = .ok (.lreturn, 1) := by decide +kernel
theorem dX10_has_0 : decode cX10_has 0 = .ok (.iload_n 1, 1) := by decide +kernel
theorem dX10_has_1 : decode cX10_has 1 = .ok (.ifCond .lt 21, 3) := by decide +kernel
theorem dX10_has_4 : decode cX10_has 4 = .ok (.iload_n 2, 1) := by decide +kernel
theorem dX10_has_5 : decode cX10_has 5 = .ok (.ifCond .lt 17, 3) := by decide +kernel
theorem dX10_has_8 : decode cX10_has 8 = .ok (.iload_n 2, 1) := by decide +kernel
theorem dX10_has_9 : decode cX10_has 9 = .ok (.iconst 3, 1) := by decide +kernel
theorem dX10_has_10 : decode cX10_has 10 = .ok (.if_icmp .gt 12, 3) := by decide +kernel
theorem dX10_has_13 : decode cX10_has 13 = .ok (.iload_n 1, 1) := by decide +kernel
theorem dX10_has_14 : decode cX10_has 14 = .ok (.getstatic 43, 3) := by decide +kernel
theorem dX10_has_17 : decode cX10_has 17 = .ok (.iload_n 2, 1) := by decide +kernel
theorem dX10_has_18 : decode cX10_has 18 = .ok (.iaload, 1) := by decide +kernel
theorem dX10_has_19 : decode cX10_has 19 = .ok (.if_icmp .lt 5, 3) := by decide +kernel
theorem dX10_has_22 : decode cX10_has 22 = .ok (.iconst 0, 1) := by decide +kernel
theorem dX10_has_23 : decode cX10_has 23 = .ok (.ireturn, 1) := by decide +kernel
theorem dX10_has_24 : decode cX10_has 24 = .ok (.iload_n 2, 1) := by decide +kernel
theorem dX10_has_25 : decode cX10_has 25 = .ok (.ifCond .ne 18, 3) := by decide +kernel
theorem dX10_has_28 : decode cX10_has 28 = .ok (.aload_n 0, 1) := by decide +kernel
theorem dX10_has_29 : decode cX10_has 29 = .ok (.getfield 19, 3) := by decide +kernel
theorem dX10_has_32 : decode cX10_has 32 = .ok (.lconst 0, 1) := by decide +kernel
theorem dX10_has_33 : decode cX10_has 33 = .ok (.lcmp, 1) := by decide +kernel
theorem dX10_has_34 : decode cX10_has 34 = .ok (.ifCond .eq 7, 3) := by decide +kernel
theorem dX10_has_37 : decode cX10_has 37 = .ok (.iconst 1, 1) := by decide +kernel
theorem dX10_has_38 : decode cX10_has 38 = .ok (.goto 4, 3) := by decide +kernel
theorem dX10_has_41 : decode cX10_has 41 = .ok (.iconst 0, 1) := by decide +kernel
theorem dX10_has_42 : decode cX10_has 42 = .ok (.ireturn, 1) := by decide +kernel
theorem dX10_has_43 : decode cX10_has 43 = .ok (.iload_n 2, 1) := by decide +kernel
theorem dX10_has_44 : decode cX10_has 44 = .ok (.iconst 3, 1) := by decide +kernel
theorem dX10_has_45 : decode cX10_has 45 = .ok (.if_icmp .ge 34, 3) := by decide +kernel
theorem dX10_has_48 : decode cX10_has 48 = .ok (.iload_n 2, 1) := by decide +kernel
theorem dX10_has_49 : decode cX10_has 49 = .ok (.iconst 1, 1) := by decide +kernel
theorem dX10_has_50 : decode cX10_has 50 = .ok (.if_icmp .ne 10, 3) := by decide +kernel
theorem dX10_has_53 : decode cX10_has 53 = .ok (.aload_n 0, 1) := by decide +kernel
theorem dX10_has_54 : decode cX10_has 54 = .ok (.getfield 19, 3) := by decide +kernel
theorem dX10_has_57 : decode cX10_has 57 = .ok (.goto 7, 3) := by decide +kernel
theorem dX10_has_60 : decode cX10_has 60 = .ok (.aload_n 0, 1) := by decide +kernel
theorem dX10_has_61 : decode cX10_has 61 = .ok (.getfield 15, 3) := by decide +kernel
theorem dX10_has_64 : decode cX10_has 64 = .ok (.iload_n 1, 1) := by decide +kernel
theorem dX10_has_65 : decode cX10_has 65 = .ok (.lshr, 1) := by decide +kernel
theorem dX10_has_66 : decode cX10_has 66 = .ok (.lconst 1, 1) := by decide +kernel
theorem dX10_has_67 : decode cX10_has 67 = .ok (.land, 1) := by decide +kernel
theorem dX10_has_68 : decode cX10_has 68 = .ok (.lconst 0, 1) := by decide +kernel
theorem dX10_has_69 : decode cX10_has 69 = .ok (.lcmp, 1) := by decide +kernel
theorem dX10_has_70 : decode cX10_has 70 = .ok (.ifCond .eq 7, 3) := by decide +kernel
theorem dX10_has_73 : decode cX10_has 73 = .ok (.iconst 1, 1) := by decide +kernel
theorem dX10_has_74 : decode cX10_has 74 = .ok (.goto 4, 3) := by decide +kernel
theorem dX10_has_77 : decode cX10_has 77 = .ok (.iconst 0, 1) := by decide +kernel
theorem dX10_has_78 : decode cX10_has 78 = .ok (.ireturn, 1) := by decide +kernel
theorem dX10_has_79 : decode cX10_has 79 = .ok (.iload_n 1, 1) := by decide +kernel
theorem dX10_has_80 : decode cX10_has 80 = .ok (.getstatic 43, 3) := by decide +kernel
theorem dX10_has_83 : decode cX10_has 83 = .ok (.iconst 1, 1) := by decide +kernel
theorem dX10_has_84 : decode cX10_has 84 = .ok (.iaload, 1) := by decide +kernel
theorem dX10_has_85 : decode cX10_has 85 = .ok (.if_icmp .ge 7, 3) := by decide +kernel
theorem dX10_has_88 : decode cX10_has 88 = .ok (.iconst 1, 1) := by decide +kernel
theorem dX10_has_89 : decode cX10_has 89 = .ok (.goto 25, 3) := by decide +kernel
theorem dX10_has_92 : decode cX10_has 92 = .ok (.iload_n 1, 1) := by decide +kernel
theorem dX10_has_93 : decode cX10_has 93 = .ok (.getstatic 43, 3) := by decide +kernel
theorem dX10_has_96 : decode cX10_has 96 = .ok (.iconst 2, 1) := by decide +kernel
theorem dX10_has_97 : decode cX10_has 97 = .ok (.iaload, 1) := by decide +kernel
theorem dX10_has_98 : decode cX10_has 98 = .ok (.if_icmp .ge 11, 3) := by decide +kernel
theorem dX10_has_101 : decode cX10_has 101 = .ok (.getstatic 43, 3) := by decide +kernel
theorem dX10_has_104 : decode cX10_has 104 = .ok (.iconst 1, 1) := by decide +kernel
theorem dX10_has_105 : decode cX10_has 105 = .ok (.iaload, 1) := by decide +kernel
theorem dX10_has_106 : decode cX10_has 106 = .ok (.goto 8, 3) := by decide +kernel
theorem dX10_has_109 : decode cX10_has 109 = .ok (.getstatic 43, 3) := by decide +kernel
theorem dX10_has_112 : decode cX10_has 112 = .ok (.iconst 2, 1) := by decide +kernel
theorem dX10_has_113 : decode cX10_has 113 = .ok (.iaload, 1) := by decide +kernel
theorem dX10_has_114 : decode cX10_has 114 = .ok (.istore_n 3, 1) := by decide +kernel
theorem dX10_has_115 : decode cX10_has 115 = .ok (.aload_n 0, 1) := by decide +kernel
theorem dX10_has_116 : decode cX10_has 116 = .ok (.getfield 9, 3) := by decide +kernel
theorem dX10_has_119 : decode cX10_has 119 = .ok (.iload_n 1, 1) := by decide +kernel
theorem dX10_has_120 : decode cX10_has 120 = .ok (.iload_n 3, 1) := by decide +kernel
theorem dX10_has_121 : decode cX10_has 121 = .ok (.idiv, 1) := by decide +kernel
theorem dX10_has_122 : decode cX10_has 122 = .ok (.laload, 1) := by decide +kernel
theorem dX10_has_123 : decode cX10_has 123 = .ok (.iload_n 1, 1) := by decide +kernel
theorem dX10_has_124 : decode cX10_has 124 = .ok (.iload_n 3, 1) := by decide +kernel
theorem dX10_has_125 : decode cX10_has 125 = .ok (.irem, 1) := by decide +kernel
theorem dX10_has_126 : decode cX10_has 126 = .ok (.lshr, 1) := by decide +kernel
theorem dX10_has_127 : decode cX10_has 127 = .ok (.lconst 1, 1) := by decide +kernel
theorem dX10_has_128 : decode cX10_has 128 = .ok (.land, 1) := by decide +kernel
theorem dX10_has_129 : decode cX10_has 129 = .ok (.lconst 0, 1) := by decide +kernel
theorem dX10_has_130 : decode cX10_has 130 = .ok (.lcmp, 1) := by decide +kernel
theorem dX10_has_131 : decode cX10_has 131 = .ok (.ifCond .eq 7, 3) := by decide +kernel
theorem dX10_has_134 : decode cX10_has 134 = .ok (.iconst 1, 1) := by decide +kernel
theorem dX10_has_135 : decode cX10_has 135 = .ok (.goto 4, 3) := by decide +kernel
theorem dX10_has_138 : decode cX10_has 138 = .ok (.iconst 0, 1) := by decide +kernel
theorem dX10_has_139 : decode cX10_has 139 = .ok (.ireturn, 1) := by decide +kernel
theorem dX10_size_0 : decode cX10_size 0 = .ok (.iload_n 1, 1) := by decide +kernel
theorem dX10_size_1 : decode cX10_size 1 = .ok (.ifCond .ne 18, 3) := by decide +kernel
theorem dX10_size_4 : decode cX10_size 4 = .ok (.aload_n 0, 1) := by decide +kernel
theorem dX10_size_5 : decode cX10_size 5 = .ok (.getfield 19, 3) := by decide +kernel
theorem dX10_size_8 : decode cX10_size 8 = .ok (.lconst 0, 1) := by decide +kernel
theorem dX10_size_9 : decode cX10_size 9 = .ok (.lcmp, 1) := by decide +kernel
theorem dX10_size_10 : decode cX10_size 10 = .ok (.ifCond .eq 7, 3) := by decide +kernel
theorem dX10_size_13 : decode cX10_size 13 = .ok (.iconst 1, 1) := by decide +kernel
theorem dX10_size_14 : decode cX10_size 14 = .ok (.goto 4, 3) := by decide +kernel
theorem dX10_size_17 : decode cX10_size 17 = .ok (.iconst 0, 1) := by decide +kernel
theorem dX10_size_18 : decode cX10_size 18 = .ok (.ireturn, 1) := by decide +kernel
theorem dX10_size_19 : decode cX10_size 19 = .ok (.iload_n 1, 1) := by decide +kernel
theorem dX10_size_20 : decode cX10_size 20 = .ok (.iconst 3, 1) := by decide +kernel
theorem dX10_size_21 : decode cX10_size 21 = .ok (.if_icmp .ge 23, 3) := by decide +kernel
theorem dX10_size_24 : decode cX10_size 24 = .ok (.iload_n 1, 1) := by decide +kernel
theorem dX10_size_25 : decode cX10_size 25 = .ok (.iconst 1, 1) := by decide +kernel
theorem dX10_size_26 : decode cX10_size 26 = .ok (.if_icmp .ne 10, 3) := by decide +kernel
theorem dX10_size_29 : decode cX10_size 29 = .ok (.aload_n 0, 1) := by decide +kernel
theorem dX10_size_30 : decode cX10_size 30 = .ok (.getfield 19, 3) := by decide +kernel
theorem dX10_size_33 : decode cX10_size 33 = .ok (.goto 7, 3) := by decide +kernel
theorem dX10_size_36 : decode cX10_size 36 = .ok (.aload_n 0, 1) := by decide +kernel
theorem dX10_size_37 : decode cX10_size 37 = .ok (.getfield 15, 3) := by decide +kernel
theorem dX10_size_40 : decode cX10_size 40 = .ok (.invokestatic 47, 3) := by decide +kernel
theorem dX10_size_43 : decode cX10_size 43 = .ok (.ireturn, 1) := by decide +kernel
theorem dX10_size_44 : decode cX10_size 44 = .ok (.iconst 0, 1) := by decide +kernel
theorem dX10_size_45 : decode cX10_size 45 = .ok (.istore_n 2, 1) := by decide +kernel
theorem dX10_size_46 : decode cX10_size 46 = .ok (.iconst 0, 1) := by decide +kernel
theorem dX10_size_47 : decode cX10_size 47 = .ok (.istore_n 3, 1) := by decide +kernel
theorem dX10_size_48 : decode cX10_size 48 = .ok (.iload_n 3, 1) := by decide +kernel
theorem dX10_size_49 : decode cX10_size 49 = .ok (.bipush 6, 2) := by decide +kernel
theorem dX10_size_51 : decode cX10_size 51 = .ok (.if_icmp .ge 21, 3) := by decide +kernel
theorem dX10_size_54 : decode cX10_size 54 = .ok (.iload_n 2, 1) := by decide +kernel
theorem dX10_size_55 : decode cX10_size 55 = .ok (.aload_n 0, 1) := by decide +kernel
theorem dX10_size_56 : decode cX10_size 56 = .ok (.getfield 9, 3) := by decide +kernel
theorem dX10_size_59 : decode cX10_size 59 = .ok (.iload_n 3, 1) := by decide +kernel
theorem dX10_size_60 : decode cX10_size 60 = .ok (.laload, 1) := by decide +kernel
theorem dX10_size_61 : decode cX10_size 61 = .ok (.invokestatic 47, 3) := by decide +kernel
theorem dX10_size_64 : decode cX10_size 64 = .ok (.iadd, 1) := by decide +kernel
theorem dX10_size_65 : decode cX10_size 65 = .ok (.istore_n 2, 1) := by decide +kernel
theorem dX10_size_66 : decode cX10_size 66 = .ok (.iinc 3 1, 3) := by decide +kernel
theorem dX10_size_69 : decode cX10_size 69 = .ok (.goto (-21), 3) := by decide +kernel
theorem dX10_size_72 : decode cX10_size 72 = .ok (.iload_n 2, 1) := by decide +kernel
theorem dX10_size_73 : decode cX10_size 73 = .ok (.ireturn, 1) := by decide +kernel
theorem dX10_meets_0 : decode cX10_meets 0 = .ok (.iload_n 2, 1) := by decide +kernel
theorem dX10_meets_1 : decode cX10_meets 1 = .ok (.ifCond .ne 27, 3) := by decide +kernel
theorem dX10_meets_4 : decode cX10_meets 4 = .ok (.aload_n 0, 1) := by decide +kernel
theorem dX10_meets_5 : decode cX10_meets 5 = .ok (.getfield 19, 3) := by decide +kernel
theorem dX10_meets_8 : decode cX10_meets 8 = .ok (.lconst 0, 1) := by decide +kernel
theorem dX10_meets_9 : decode cX10_meets 9 = .ok (.lcmp, 1) := by decide +kernel
theorem dX10_meets_10 : decode cX10_meets 10 = .ok (.ifCond .eq 16, 3) := by decide +kernel
theorem dX10_meets_13 : decode cX10_meets 13 = .ok (.aload_n 1, 1) := by decide +kernel
theorem dX10_meets_14 : decode cX10_meets 14 = .ok (.getfield 19, 3) := by decide +kernel
theorem dX10_meets_17 : decode cX10_meets 17 = .ok (.lconst 0, 1) := by decide +kernel
theorem dX10_meets_18 : decode cX10_meets 18 = .ok (.lcmp, 1) := by decide +kernel
theorem dX10_meets_19 : decode cX10_meets 19 = .ok (.ifCond .eq 7, 3) := by decide +kernel
theorem dX10_meets_22 : decode cX10_meets 22 = .ok (.iconst 1, 1) := by decide +kernel
theorem dX10_meets_23 : decode cX10_meets 23 = .ok (.goto 4, 3) := by decide +kernel
theorem dX10_meets_26 : decode cX10_meets 26 = .ok (.iconst 0, 1) := by decide +kernel
theorem dX10_meets_27 : decode cX10_meets 27 = .ok (.ireturn, 1) := by decide +kernel
theorem dX10_meets_28 : decode cX10_meets 28 = .ok (.iload_n 2, 1) := by decide +kernel
theorem dX10_meets_29 : decode cX10_meets 29 = .ok (.iconst 3, 1) := by decide +kernel
theorem dX10_meets_30 : decode cX10_meets 30 = .ok (.if_icmp .ge 40, 3) := by decide +kernel
theorem dX10_meets_33 : decode cX10_meets 33 = .ok (.iload_n 2, 1) := by decide +kernel
theorem dX10_meets_34 : decode cX10_meets 34 = .ok (.iconst 1, 1) := by decide +kernel
theorem dX10_meets_35 : decode cX10_meets 35 = .ok (.if_icmp .ne 15, 3) := by decide +kernel
theorem dX10_meets_38 : decode cX10_meets 38 = .ok (.aload_n 0, 1) := by decide +kernel
theorem dX10_meets_39 : decode cX10_meets 39 = .ok (.getfield 19, 3) := by decide +kernel
theorem dX10_meets_42 : decode cX10_meets 42 = .ok (.aload_n 1, 1) := by decide +kernel
theorem dX10_meets_43 : decode cX10_meets 43 = .ok (.getfield 19, 3) := by decide +kernel
theorem dX10_meets_46 : decode cX10_meets 46 = .ok (.land, 1) := by decide +kernel
theorem dX10_meets_47 : decode cX10_meets 47 = .ok (.goto 12, 3) := by decide +kernel
theorem dX10_meets_50 : decode cX10_meets 50 = .ok (.aload_n 0, 1) := by decide +kernel
theorem dX10_meets_51 : decode cX10_meets 51 = .ok (.getfield 15, 3) := by decide +kernel
theorem dX10_meets_54 : decode cX10_meets 54 = .ok (.aload_n 1, 1) := by decide +kernel
theorem dX10_meets_55 : decode cX10_meets 55 = .ok (.getfield 15, 3) := by decide +kernel
theorem dX10_meets_58 : decode cX10_meets 58 = .ok (.land, 1) := by decide +kernel
theorem dX10_meets_59 : decode cX10_meets 59 = .ok (.lconst 0, 1) := by decide +kernel
theorem dX10_meets_60 : decode cX10_meets 60 = .ok (.lcmp, 1) := by decide +kernel
theorem dX10_meets_61 : decode cX10_meets 61 = .ok (.ifCond .eq 7, 3) := by decide +kernel
theorem dX10_meets_64 : decode cX10_meets 64 = .ok (.iconst 1, 1) := by decide +kernel
theorem dX10_meets_65 : decode cX10_meets 65 = .ok (.goto 4, 3) := by decide +kernel
theorem dX10_meets_68 : decode cX10_meets 68 = .ok (.iconst 0, 1) := by decide +kernel
theorem dX10_meets_69 : decode cX10_meets 69 = .ok (.ireturn, 1) := by decide +kernel
theorem dX10_meets_70 : decode cX10_meets 70 = .ok (.iconst 0, 1) := by decide +kernel
theorem dX10_meets_71 : decode cX10_meets 71 = .ok (.istore_n 3, 1) := by decide +kernel
theorem dX10_meets_72 : decode cX10_meets 72 = .ok (.iload_n 3, 1) := by decide +kernel
theorem dX10_meets_73 : decode cX10_meets 73 = .ok (.bipush 6, 2) := by decide +kernel
theorem dX10_meets_75 : decode cX10_meets 75 = .ok (.if_icmp .ge 29, 3) := by decide +kernel
theorem dX10_meets_78 : decode cX10_meets 78 = .ok (.aload_n 0, 1) := by decide +kernel
theorem dX10_meets_79 : decode cX10_meets 79 = .ok (.getfield 9, 3) := by decide +kernel
theorem dX10_meets_82 : decode cX10_meets 82 = .ok (.iload_n 3, 1) := by decide +kernel
theorem dX10_meets_83 : decode cX10_meets 83 = .ok (.laload, 1) := by decide +kernel
theorem dX10_meets_84 : decode cX10_meets 84 = .ok (.aload_n 1, 1) := by decide +kernel
theorem dX10_meets_85 : decode cX10_meets 85 = .ok (.getfield 9, 3) := by decide +kernel
theorem dX10_meets_88 : decode cX10_meets 88 = .ok (.iload_n 3, 1) := by decide +kernel
theorem dX10_meets_89 : decode cX10_meets 89 = .ok (.laload, 1) := by decide +kernel
theorem dX10_meets_90 : decode cX10_meets 90 = .ok (.land, 1) := by decide +kernel
theorem dX10_meets_91 : decode cX10_meets 91 = .ok (.lconst 0, 1) := by decide +kernel
theorem dX10_meets_92 : decode cX10_meets 92 = .ok (.lcmp, 1) := by decide +kernel
theorem dX10_meets_93 : decode cX10_meets 93 = .ok (.ifCond .eq 5, 3) := by decide +kernel
theorem dX10_meets_96 : decode cX10_meets 96 = .ok (.iconst 1, 1) := by decide +kernel
theorem dX10_meets_97 : decode cX10_meets 97 = .ok (.ireturn, 1) := by decide +kernel
theorem dX10_meets_98 : decode cX10_meets 98 = .ok (.iinc 3 1, 3) := by decide +kernel
theorem dX10_meets_101 : decode cX10_meets 101 = .ok (.goto (-29), 3) := by decide +kernel
theorem dX10_meets_104 : decode cX10_meets 104 = .ok (.iconst 0, 1) := by decide +kernel
theorem dX10_meets_105 : decode cX10_meets 105 = .ok (.ireturn, 1) := by decide +kernel
theorem dX10_marksAt_0 : decode cX10_marksAt 0 = .ok (.iload_n 1, 1) := by decide +kernel
theorem dX10_marksAt_1 : decode cX10_marksAt 1 = .ok (.ifCond .ne 27, 3) := by decide +kernel
theorem dX10_marksAt_4 : decode cX10_marksAt 4 = .ok (.aload_n 0, 1) := by decide +kernel
theorem dX10_marksAt_5 : decode cX10_marksAt 5 = .ok (.getfield 19, 3) := by decide +kernel
theorem dX10_marksAt_8 : decode cX10_marksAt 8 = .ok (.aload_n 0, 1) := by decide +kernel
theorem dX10_marksAt_9 : decode cX10_marksAt 9 = .ok (.getfield 19, 3) := by decide +kernel
theorem dX10_marksAt_12 : decode cX10_marksAt 12 = .ok (.lconst 1, 1) := by decide +kernel
theorem dX10_marksAt_13 : decode cX10_marksAt 13 = .ok (.land, 1) := by decide +kernel
theorem dX10_marksAt_14 : decode cX10_marksAt 14 = .ok (.lconst 0, 1) := by decide +kernel
theorem dX10_marksAt_15 : decode cX10_marksAt 15 = .ok (.lcmp, 1) := by decide +kernel
theorem dX10_marksAt_16 : decode cX10_marksAt 16 = .ok (.ifCond .eq 7, 3) := by decide +kernel
theorem dX10_marksAt_19 : decode cX10_marksAt 19 = .ok (.iconst 1, 1) := by decide +kernel
theorem dX10_marksAt_20 : decode cX10_marksAt 20 = .ok (.goto 4, 3) := by decide +kernel
theorem dX10_marksAt_23 : decode cX10_marksAt 23 = .ok (.iconst 0, 1) := by decide +kernel
theorem dX10_marksAt_24 : decode cX10_marksAt 24 = .ok (.invokestatic 53, 3) := by decide +kernel
theorem dX10_marksAt_27 : decode cX10_marksAt 27 = .ok (.ireturn, 1) := by decide +kernel
theorem dX10_marksAt_28 : decode cX10_marksAt 28 = .ok (.iload_n 1, 1) := by decide +kernel
theorem dX10_marksAt_29 : decode cX10_marksAt 29 = .ok (.iconst 1, 1) := by decide +kernel
theorem dX10_marksAt_30 : decode cX10_marksAt 30 = .ok (.if_icmp .ne 32, 3) := by decide +kernel
theorem dX10_marksAt_33 : decode cX10_marksAt 33 = .ok (.aload_n 0, 1) := by decide +kernel
theorem dX10_marksAt_34 : decode cX10_marksAt 34 = .ok (.getfield 15, 3) := by decide +kernel
theorem dX10_marksAt_37 : decode cX10_marksAt 37 = .ok (.invokestatic 57, 3) := by decide +kernel
theorem dX10_marksAt_40 : decode cX10_marksAt 40 = .ok (.aload_n 0, 1) := by decide +kernel
theorem dX10_marksAt_41 : decode cX10_marksAt 41 = .ok (.getfield 15, 3) := by decide +kernel
theorem dX10_marksAt_44 : decode cX10_marksAt 44 = .ok (.ldc2_w 61, 3) := by decide +kernel
theorem dX10_marksAt_47 : decode cX10_marksAt 47 = .ok (.land, 1) := by decide +kernel
theorem dX10_marksAt_48 : decode cX10_marksAt 48 = .ok (.lconst 0, 1) := by decide +kernel
theorem dX10_marksAt_49 : decode cX10_marksAt 49 = .ok (.lcmp, 1) := by decide +kernel
theorem dX10_marksAt_50 : decode cX10_marksAt 50 = .ok (.ifCond .eq 7, 3) := by decide +kernel
theorem dX10_marksAt_53 : decode cX10_marksAt 53 = .ok (.iconst 1, 1) := by decide +kernel
theorem dX10_marksAt_54 : decode cX10_marksAt 54 = .ok (.goto 4, 3) := by decide +kernel
theorem dX10_marksAt_57 : decode cX10_marksAt 57 = .ok (.iconst 0, 1) := by decide +kernel
theorem dX10_marksAt_58 : decode cX10_marksAt 58 = .ok (.invokestatic 53, 3) := by decide +kernel
theorem dX10_marksAt_61 : decode cX10_marksAt 61 = .ok (.ireturn, 1) := by decide +kernel
theorem dX10_marksAt_62 : decode cX10_marksAt 62 = .ok (.lconst 0, 1) := by decide +kernel
theorem dX10_marksAt_63 : decode cX10_marksAt 63 = .ok (.lstore_n 2, 1) := by decide +kernel
theorem dX10_marksAt_64 : decode cX10_marksAt 64 = .ok (.iconst 1, 1) := by decide +kernel
theorem dX10_marksAt_65 : decode cX10_marksAt 65 = .ok (.istore 4, 2) := by decide +kernel
theorem dX10_marksAt_67 : decode cX10_marksAt 67 = .ok (.iload 4, 2) := by decide +kernel
theorem dX10_marksAt_69 : decode cX10_marksAt 69 = .ok (.bipush 6, 2) := by decide +kernel
theorem dX10_marksAt_71 : decode cX10_marksAt 71 = .ok (.if_icmp .ge 19, 3) := by decide +kernel
theorem dX10_marksAt_74 : decode cX10_marksAt 74 = .ok (.lload_n 2, 1) := by decide +kernel
theorem dX10_marksAt_75 : decode cX10_marksAt 75 = .ok (.aload_n 0, 1) := by decide +kernel
theorem dX10_marksAt_76 : decode cX10_marksAt 76 = .ok (.getfield 9, 3) := by decide +kernel
theorem dX10_marksAt_79 : decode cX10_marksAt 79 = .ok (.iload 4, 2) := by decide +kernel
theorem dX10_marksAt_81 : decode cX10_marksAt 81 = .ok (.laload, 1) := by decide +kernel
theorem dX10_marksAt_82 : decode cX10_marksAt 82 = .ok (.lor, 1) := by decide +kernel
theorem dX10_marksAt_83 : decode cX10_marksAt 83 = .ok (.lstore_n 2, 1) := by decide +kernel
theorem dX10_marksAt_84 : decode cX10_marksAt 84 = .ok (.iinc 4 1, 3) := by decide +kernel
theorem dX10_marksAt_87 : decode cX10_marksAt 87 = .ok (.goto (-20), 3) := by decide +kernel
theorem dX10_marksAt_90 : decode cX10_marksAt 90 = .ok (.lload_n 2, 1) := by decide +kernel
theorem dX10_marksAt_91 : decode cX10_marksAt 91 = .ok (.invokestatic 57, 3) := by decide +kernel
theorem dX10_marksAt_94 : decode cX10_marksAt 94 = .ok (.aload_n 0, 1) := by decide +kernel
theorem dX10_marksAt_95 : decode cX10_marksAt 95 = .ok (.getfield 9, 3) := by decide +kernel
theorem dX10_marksAt_98 : decode cX10_marksAt 98 = .ok (.iconst 0, 1) := by decide +kernel
theorem dX10_marksAt_99 : decode cX10_marksAt 99 = .ok (.laload, 1) := by decide +kernel
theorem dX10_marksAt_100 : decode cX10_marksAt 100 = .ok (.lconst 0, 1) := by decide +kernel
theorem dX10_marksAt_101 : decode cX10_marksAt 101 = .ok (.lcmp, 1) := by decide +kernel
theorem dX10_marksAt_102 : decode cX10_marksAt 102 = .ok (.ifCond .ne 13, 3) := by decide +kernel
theorem dX10_marksAt_105 : decode cX10_marksAt 105 = .ok (.lload_n 2, 1) := by decide +kernel
theorem dX10_marksAt_106 : decode cX10_marksAt 106 = .ok (.ldc2_w 61, 3) := by decide +kernel
theorem dX10_marksAt_109 : decode cX10_marksAt 109 = .ok (.land, 1) := by decide +kernel
theorem dX10_marksAt_110 : decode cX10_marksAt 110 = .ok (.lconst 0, 1) := by decide +kernel
theorem dX10_marksAt_111 : decode cX10_marksAt 111 = .ok (.lcmp, 1) := by decide +kernel
theorem dX10_marksAt_112 : decode cX10_marksAt 112 = .ok (.ifCond .eq 7, 3) := by decide +kernel
theorem dX10_marksAt_115 : decode cX10_marksAt 115 = .ok (.iconst 1, 1) := by decide +kernel
theorem dX10_marksAt_116 : decode cX10_marksAt 116 = .ok (.goto 4, 3) := by decide +kernel
theorem dX10_marksAt_119 : decode cX10_marksAt 119 = .ok (.iconst 0, 1) := by decide +kernel
theorem dX10_marksAt_120 : decode cX10_marksAt 120 = .ok (.invokestatic 53, 3) := by decide +kernel
theorem dX10_marksAt_123 : decode cX10_marksAt 123 = .ok (.ireturn, 1) := by decide +kernel
theorem dX10_lastDigits_0 : decode cX10_lastDigits 0 = .ok (.lconst 0, 1) := by decide +kernel
theorem dX10_lastDigits_1 : decode cX10_lastDigits 1 = .ok (.lstore_n 2, 1) := by decide +kernel
theorem dX10_lastDigits_2 : decode cX10_lastDigits 2 = .ok (.iconst 1, 1) := by decide +kernel
theorem dX10_lastDigits_3 : decode cX10_lastDigits 3 = .ok (.istore 4, 2) := by decide +kernel
theorem dX10_lastDigits_5 : decode cX10_lastDigits 5 = .ok (.iload 4, 2) := by decide +kernel
theorem dX10_lastDigits_7 : decode cX10_lastDigits 7 = .ok (.bipush 6, 2) := by decide +kernel
theorem dX10_lastDigits_9 : decode cX10_lastDigits 9 = .ok (.if_icmp .ge 23, 3) := by decide +kernel
theorem dX10_lastDigits_12 : decode cX10_lastDigits 12 = .ok (.lload_n 2, 1) := by decide +kernel
theorem dX10_lastDigits_13 : decode cX10_lastDigits 13 = .ok (.lload_n 0, 1) := by decide +kernel
theorem dX10_lastDigits_14 : decode cX10_lastDigits 14 = .ok (.bipush 6, 2) := by decide +kernel
theorem dX10_lastDigits_16 : decode cX10_lastDigits 16 = .ok (.iload 4, 2) := by decide +kernel
theorem dX10_lastDigits_18 : decode cX10_lastDigits 18 = .ok (.imul, 1) := by decide +kernel
theorem dX10_lastDigits_19 : decode cX10_lastDigits 19 = .ok (.lshr, 1) := by decide +kernel
theorem dX10_lastDigits_20 : decode cX10_lastDigits 20 = .ok (.ldc2_w 41, 3) := by decide +kernel
theorem dX10_lastDigits_23 : decode cX10_lastDigits 23 = .ok (.land, 1) := by decide +kernel
theorem dX10_lastDigits_24 : decode cX10_lastDigits 24 = .ok (.lor, 1) := by decide +kernel
theorem dX10_lastDigits_25 : decode cX10_lastDigits 25 = .ok (.lstore_n 2, 1) := by decide +kernel
theorem dX10_lastDigits_26 : decode cX10_lastDigits 26 = .ok (.iinc 4 1, 3) := by decide +kernel
theorem dX10_lastDigits_29 : decode cX10_lastDigits 29 = .ok (.goto (-24), 3) := by decide +kernel
theorem dX10_lastDigits_32 : decode cX10_lastDigits 32 = .ok (.lload_n 2, 1) := by decide +kernel
theorem dX10_lastDigits_33 : decode cX10_lastDigits 33 = .ok (.lreturn, 1) := by decide +kernel
theorem dX10_markMask_0 : decode cX10_markMask 0 = .ok (.lload_n 0, 1) := by decide +kernel
theorem dX10_markMask_1 : decode cX10_markMask 1 = .ok (.ldc2_w 41, 3) := by decide +kernel
theorem dX10_markMask_4 : decode cX10_markMask 4 = .ok (.land, 1) := by decide +kernel
theorem dX10_markMask_5 : decode cX10_markMask 5 = .ok (.iconst 1, 1) := by decide +kernel
theorem dX10_markMask_6 : decode cX10_markMask 6 = .ok (.lshr, 1) := by decide +kernel
theorem dX10_markMask_7 : decode cX10_markMask 7 = .ok (.l2i, 1) := by decide +kernel
theorem dX10_markMask_8 : decode cX10_markMask 8 = .ok (.iload_n 2, 1) := by decide +kernel
theorem dX10_markMask_9 : decode cX10_markMask 9 = .ok (.ifCond .eq 8, 3) := by decide +kernel
theorem dX10_markMask_12 : decode cX10_markMask 12 = .ok (.bipush 32, 2) := by decide +kernel
theorem dX10_markMask_14 : decode cX10_markMask 14 = .ok (.goto 4, 3) := by decide +kernel
theorem dX10_markMask_17 : decode cX10_markMask 17 = .ok (.iconst 0, 1) := by decide +kernel
theorem dX10_markMask_18 : decode cX10_markMask 18 = .ok (.ior, 1) := by decide +kernel
theorem dX10_markMask_19 : decode cX10_markMask 19 = .ok (.ireturn, 1) := by decide +kernel
theorem dX11_init_0 : decode cX11_init 0 = .ok (.aload_n 0, 1) := by decide +kernel
theorem dX11_init_1 : decode cX11_init 1 = .ok (.invokespecial 1, 3) := by decide +kernel
theorem dX11_init_4 : decode cX11_init 4 = .ok (.aload_n 0, 1) := by decide +kernel
theorem dX11_init_5 : decode cX11_init 5 = .ok (.new 7, 3) := by decide +kernel
theorem dX11_init_8 : decode cX11_init 8 = .ok (.dup, 1) := by decide +kernel
theorem dX11_init_9 : decode cX11_init 9 = .ok (.invokespecial 9, 3) := by decide +kernel
theorem dX11_init_12 : decode cX11_init 12 = .ok (.putfield 10, 3) := by decide +kernel
theorem dX11_init_15 : decode cX11_init 15 = .ok (.aload_n 0, 1) := by decide +kernel
theorem dX11_init_16 : decode cX11_init 16 = .ok (.new 16, 3) := by decide +kernel
theorem dX11_init_19 : decode cX11_init 19 = .ok (.dup, 1) := by decide +kernel
theorem dX11_init_20 : decode cX11_init 20 = .ok (.invokespecial 18, 3) := by decide +kernel
theorem dX11_init_23 : decode cX11_init 23 = .ok (.putfield 19, 3) := by decide +kernel
theorem dX11_init_26 : decode cX11_init 26 = .ok (.aload_n 0, 1) := by decide +kernel
theorem dX11_init_27 : decode cX11_init 27 = .ok (.new 23, 3) := by decide +kernel
theorem dX11_init_30 : decode cX11_init 30 = .ok (.dup, 1) := by decide +kernel
theorem dX11_init_31 : decode cX11_init 31 = .ok (.invokespecial 25, 3) := by decide +kernel
theorem dX11_init_34 : decode cX11_init 34 = .ok (.putfield 26, 3) := by decide +kernel
theorem dX11_init_37 : decode cX11_init 37 = .ok (.aload_n 0, 1) := by decide +kernel
theorem dX11_init_38 : decode cX11_init 38 = .ok (.new 30, 3) := by decide +kernel
theorem dX11_init_41 : decode cX11_init 41 = .ok (.dup, 1) := by decide +kernel
theorem dX11_init_42 : decode cX11_init 42 = .ok (.invokespecial 32, 3) := by decide +kernel
theorem dX11_init_45 : decode cX11_init 45 = .ok (.putfield 33, 3) := by decide +kernel
theorem dX11_init_48 : decode cX11_init 48 = .ok (.aload_n 0, 1) := by decide +kernel
theorem dX11_init_49 : decode cX11_init 49 = .ok (.new 37, 3) := by decide +kernel
theorem dX11_init_52 : decode cX11_init 52 = .ok (.dup, 1) := by decide +kernel
theorem dX11_init_53 : decode cX11_init 53 = .ok (.invokespecial 39, 3) := by decide +kernel
theorem dX11_init_56 : decode cX11_init 56 = .ok (.putfield 40, 3) := by decide +kernel
theorem dX11_init_59 : decode cX11_init 59 = .ok (.aload_n 0, 1) := by decide +kernel
theorem dX11_init_60 : decode cX11_init 60 = .ok (.new 44, 3) := by decide +kernel
theorem dX11_init_63 : decode cX11_init 63 = .ok (.dup, 1) := by decide +kernel
theorem dX11_init_64 : decode cX11_init 64 = .ok (.invokespecial 46, 3) := by decide +kernel
theorem dX11_init_67 : decode cX11_init 67 = .ok (.putfield 47, 3) := by decide +kernel
theorem dX11_init_70 : decode cX11_init 70 = .ok (.aload_n 0, 1) := by decide +kernel
theorem dX11_init_71 : decode cX11_init 71 = .ok (.new 51, 3) := by decide +kernel
theorem dX11_init_74 : decode cX11_init 74 = .ok (.dup, 1) := by decide +kernel
theorem dX11_init_75 : decode cX11_init 75 = .ok (.invokespecial 53, 3) := by decide +kernel
theorem dX11_init_78 : decode cX11_init 78 = .ok (.putfield 54, 3) := by decide +kernel
theorem dX11_init_81 : decode cX11_init 81 = .ok (.aload_n 0, 1) := by decide +kernel
theorem dX11_init_82 : decode cX11_init 82 = .ok (.new 58, 3) := by decide +kernel
theorem dX11_init_85 : decode cX11_init 85 = .ok (.dup, 1) := by decide +kernel
theorem dX11_init_86 : decode cX11_init 86 = .ok (.invokespecial 60, 3) := by decide +kernel
theorem dX11_init_89 : decode cX11_init 89 = .ok (.putfield 61, 3) := by decide +kernel
theorem dX11_init_92 : decode cX11_init 92 = .ok (.aload_n 0, 1) := by decide +kernel
theorem dX11_init_93 : decode cX11_init 93 = .ok (.new 65, 3) := by decide +kernel
theorem dX11_init_96 : decode cX11_init 96 = .ok (.dup, 1) := by decide +kernel
theorem dX11_init_97 : decode cX11_init 97 = .ok (.invokespecial 67, 3) := by decide +kernel
theorem dX11_init_100 : decode cX11_init 100 = .ok (.putfield 68, 3) := by decide +kernel
theorem dX11_init_103 : decode cX11_init 103 = .ok (.aload_n 0, 1) := by decide +kernel
theorem dX11_init_104 : decode cX11_init 104 = .ok (.getfield 68, 3) := by decide +kernel
theorem dX11_init_107 : decode cX11_init 107 = .ok (.iconst 0, 1) := by decide +kernel
theorem dX11_init_108 : decode cX11_init 108 = .ok (.invokevirtual 72, 3) := by decide +kernel
theorem dX11_init_111 : decode cX11_init 111 = .ok (.pop, 1) := by decide +kernel
theorem dX11_init_112 : decode cX11_init 112 = .ok (.aload_n 0, 1) := by decide +kernel
theorem dX11_init_113 : decode cX11_init 113 = .ok (.invokevirtual 76, 3) := by decide +kernel
theorem dX11_init_116 : decode cX11_init 116 = .ok (.return_, 1) := by decide +kernel
theorem dX11_type_0 : decode cX11_type 0 = .ok (.iload_n 1, 1) := by decide +kernel
theorem dX11_type_1 : decode cX11_type 1 = .ok (.bipush 33, 2) := by decide +kernel
theorem dX11_type_3 : decode cX11_type 3 = .ok (.if_icmp .lt 9, 3) := by decide +kernel
theorem dX11_type_6 : decode cX11_type 6 = .ok (.iload_n 1, 1) := by decide +kernel
theorem dX11_type_7 : decode cX11_type 7 = .ok (.bipush 126, 2) := by decide +kernel
theorem dX11_type_9 : decode cX11_type 9 = .ok (.if_icmp .le 5, 3) := by decide +kernel
theorem dX11_type_12 : decode cX11_type 12 = .ok (.iconst (-1), 1) := by decide +kernel
theorem dX11_type_13 : decode cX11_type 13 = .ok (.ireturn, 1) := by decide +kernel
theorem dX11_type_14 : decode cX11_type 14 = .ok (.aload_n 0, 1) := by decide +kernel
theorem dX11_type_15 : decode cX11_type 15 = .ok (.getfield 10, 3) := by decide +kernel
theorem dX11_type_18 : decode cX11_type 18 = .ok (.invokevirtual 79, 3) := by decide +kernel
theorem dX11_type_21 : decode cX11_type 21 = .ok (.bipush 100, 2) := by decide +kernel
theorem dX11_type_23 : decode cX11_type 23 = .ok (.if_icmp .lt 6, 3) := by decide +kernel
theorem dX11_type_26 : decode cX11_type 26 = .ok (.bipush (-3), 2) := by decide +kernel
theorem dX11_type_28 : decode cX11_type 28 = .ok (.ireturn, 1) := by decide +kernel
theorem dX11_type_29 : decode cX11_type 29 = .ok (.aload_n 0, 1) := by decide +kernel
theorem dX11_type_30 : decode cX11_type 30 = .ok (.getfield 10, 3) := by decide +kernel
theorem dX11_type_33 : decode cX11_type 33 = .ok (.iload_n 1, 1) := by decide +kernel
theorem dX11_type_34 : decode cX11_type 34 = .ok (.invokevirtual 83, 3) := by decide +kernel
theorem dX11_type_37 : decode cX11_type 37 = .ok (.aload_n 0, 1) := by decide +kernel
theorem dX11_type_38 : decode cX11_type 38 = .ok (.getfield 54, 3) := by decide +kernel
theorem dX11_type_41 : decode cX11_type 41 = .ok (.invokevirtual 87, 3) := by decide +kernel
theorem dX11_type_44 : decode cX11_type 44 = .ok (.aload_n 0, 1) := by decide +kernel
theorem dX11_type_45 : decode cX11_type 45 = .ok (.getfield 10, 3) := by decide +kernel
theorem dX11_type_48 : decode cX11_type 48 = .ok (.invokevirtual 79, 3) := by decide +kernel
theorem dX11_type_51 : decode cX11_type 51 = .ok (.ireturn, 1) := by decide +kernel
theorem dX11_clear_0 : decode cX11_clear 0 = .ok (.aload_n 0, 1) := by decide +kernel
theorem dX11_clear_1 : decode cX11_clear 1 = .ok (.getfield 10, 3) := by decide +kernel
theorem dX11_clear_4 : decode cX11_clear 4 = .ok (.invokevirtual 79, 3) := by decide +kernel
theorem dX11_clear_7 : decode cX11_clear 7 = .ok (.istore_n 1, 1) := by decide +kernel
theorem dX11_clear_8 : decode cX11_clear 8 = .ok (.aload_n 0, 1) := by decide +kernel
theorem dX11_clear_9 : decode cX11_clear 9 = .ok (.getfield 10, 3) := by decide +kernel
theorem dX11_clear_12 : decode cX11_clear 12 = .ok (.invokevirtual 90, 3) := by decide +kernel
theorem dX11_clear_15 : decode cX11_clear 15 = .ok (.aload_n 0, 1) := by decide +kernel
theorem dX11_clear_16 : decode cX11_clear 16 = .ok (.getfield 54, 3) := by decide +kernel
theorem dX11_clear_19 : decode cX11_clear 19 = .ok (.invokevirtual 87, 3) := by decide +kernel
theorem dX11_clear_22 : decode cX11_clear 22 = .ok (.iload_n 1, 1) := by decide +kernel
theorem dX11_clear_23 : decode cX11_clear 23 = .ok (.ireturn, 1) := by decide +kernel
theorem dX11_load_0 : decode cX11_load 0 = .ok (.aload_n 0, 1) := by decide +kernel
theorem dX11_load_1 : decode cX11_load 1 = .ok (.getfield 19, 3) := by decide +kernel
theorem dX11_load_4 : decode cX11_load 4 = .ok (.aload_n 0, 1) := by decide +kernel
theorem dX11_load_5 : decode cX11_load 5 = .ok (.getfield 10, 3) := by decide +kernel
theorem dX11_load_8 : decode cX11_load 8 = .ok (.invokevirtual 93, 3) := by decide +kernel
theorem dX11_load_11 : decode cX11_load 11 = .ok (.aload_n 0, 1) := by decide +kernel
theorem dX11_load_12 : decode cX11_load 12 = .ok (.getfield 19, 3) := by decide +kernel
theorem dX11_load_15 : decode cX11_load 15 = .ok (.invokevirtual 97, 3) := by decide +kernel
theorem dX11_load_18 : decode cX11_load 18 = .ok (.bipush (-9), 2) := by decide +kernel
theorem dX11_load_20 : decode cX11_load 20 = .ok (.if_icmp .eq 14, 3) := by decide +kernel
theorem dX11_load_23 : decode cX11_load 23 = .ok (.bipush (-10), 2) := by decide +kernel
theorem dX11_load_25 : decode cX11_load 25 = .ok (.aload_n 0, 1) := by decide +kernel
theorem dX11_load_26 : decode cX11_load 26 = .ok (.getfield 19, 3) := by decide +kernel
theorem dX11_load_29 : decode cX11_load 29 = .ok (.invokevirtual 100, 3) := by decide +kernel
theorem dX11_load_32 : decode cX11_load 32 = .ok (.isub, 1) := by decide +kernel
theorem dX11_load_33 : decode cX11_load 33 = .ok (.ireturn, 1) := by decide +kernel
theorem dX11_load_34 : decode cX11_load 34 = .ok (.aload_n 0, 1) := by decide +kernel
theorem dX11_load_35 : decode cX11_load 35 = .ok (.aload_n 0, 1) := by decide +kernel
theorem dX11_load_36 : decode cX11_load 36 = .ok (.getfield 19, 3) := by decide +kernel
theorem dX11_load_39 : decode cX11_load 39 = .ok (.aload_n 0, 1) := by decide +kernel
theorem dX11_load_40 : decode cX11_load 40 = .ok (.getfield 26, 3) := by decide +kernel
theorem dX11_load_43 : decode cX11_load 43 = .ok (.aload_n 0, 1) := by decide +kernel
theorem dX11_load_44 : decode cX11_load 44 = .ok (.getfield 68, 3) := by decide +kernel
theorem dX11_load_47 : decode cX11_load 47 = .ok (.invokevirtual 103, 3) := by decide +kernel
theorem dX11_load_50 : decode cX11_load 50 = .ok (.invokevirtual 107, 3) := by decide +kernel
theorem dX11_load_53 : decode cX11_load 53 = .ok (.putfield 68, 3) := by decide +kernel
theorem dX11_load_56 : decode cX11_load 56 = .ok (.aload_n 0, 1) := by decide +kernel
theorem dX11_load_57 : decode cX11_load 57 = .ok (.invokevirtual 76, 3) := by decide +kernel
theorem dX11_load_60 : decode cX11_load 60 = .ok (.aload_n 0, 1) := by decide +kernel
theorem dX11_load_61 : decode cX11_load 61 = .ok (.getfield 68, 3) := by decide +kernel
theorem dX11_load_64 : decode cX11_load 64 = .ok (.invokevirtual 110, 3) := by decide +kernel
theorem dX11_load_67 : decode cX11_load 67 = .ok (.ireturn, 1) := by decide +kernel
theorem dX11_fault_0 : decode cX11_fault 0 = .ok (.aload_n 0, 1) := by decide +kernel
theorem dX11_fault_1 : decode cX11_fault 1 = .ok (.getfield 19, 3) := by decide +kernel
theorem dX11_fault_4 : decode cX11_fault 4 = .ok (.invokevirtual 97, 3) := by decide +kernel
theorem dX11_fault_7 : decode cX11_fault 7 = .ok (.ireturn, 1) := by decide +kernel
theorem dX11_production_0 : decode cX11_production 0 = .ok (.aload_n 0, 1) := by decide +kernel
theorem dX11_production_1 : decode cX11_production 1 = .ok (.getfield 68, 3) := by decide +kernel
theorem dX11_production_4 : decode cX11_production 4 = .ok (.iload_n 1, 1) := by decide +kernel
theorem dX11_production_5 : decode cX11_production 5 = .ok (.invokevirtual 113, 3) := by decide +kernel
theorem dX11_production_8 : decode cX11_production 8 = .ok (.ifCond .eq 12, 3) := by decide +kernel
theorem dX11_production_11 : decode cX11_production 11 = .ok (.iload_n 2, 1) := by decide +kernel
theorem dX11_production_12 : decode cX11_production 12 = .ok (.ifCond .lt 8, 3) := by decide +kernel
theorem dX11_production_15 : decode cX11_production 15 = .ok (.iload_n 2, 1) := by decide +kernel
theorem dX11_production_16 : decode cX11_production 16 = .ok (.iconst 1, 1) := by decide +kernel
theorem dX11_production_17 : decode cX11_production 17 = .ok (.if_icmp .le 5, 3) := by decide +kernel
theorem dX11_production_20 : decode cX11_production 20 = .ok (.iconst (-1), 1) := by decide +kernel
theorem dX11_production_21 : decode cX11_production 21 = .ok (.ireturn, 1) := by decide +kernel
theorem dX11_production_22 : decode cX11_production 22 = .ok (.iload_n 2, 1) := by decide +kernel
theorem dX11_production_23 : decode cX11_production 23 = .ok (.ifCond .ne 14, 3) := by decide +kernel
theorem dX11_production_26 : decode cX11_production 26 = .ok (.aload_n 0, 1) := by decide +kernel
theorem dX11_production_27 : decode cX11_production 27 = .ok (.getfield 68, 3) := by decide +kernel
theorem dX11_production_30 : decode cX11_production 30 = .ok (.iload_n 1, 1) := by decide +kernel
theorem dX11_production_31 : decode cX11_production 31 = .ok (.invokevirtual 116, 3) := by decide +kernel
theorem dX11_production_34 : decode cX11_production 34 = .ok (.goto 11, 3) := by decide +kernel
theorem dX11_production_37 : decode cX11_production 37 = .ok (.aload_n 0, 1) := by decide +kernel
theorem dX11_production_38 : decode cX11_production 38 = .ok (.getfield 68, 3) := by decide +kernel
theorem dX11_production_41 : decode cX11_production 41 = .ok (.iload_n 1, 1) := by decide +kernel
theorem dX11_production_42 : decode cX11_production 42 = .ok (.invokevirtual 120, 3) := by decide +kernel
theorem dX11_production_45 : decode cX11_production 45 = .ok (.ireturn, 1) := by decide +kernel
theorem dX11_symbol_0 : decode cX11_symbol 0 = .ok (.aload_n 0, 1) := by decide +kernel
theorem dX11_symbol_1 : decode cX11_symbol 1 = .ok (.getfield 68, 3) := by decide +kernel
theorem dX11_symbol_4 : decode cX11_symbol 4 = .ok (.iload_n 1, 1) := by decide +kernel
theorem dX11_symbol_5 : decode cX11_symbol 5 = .ok (.invokevirtual 113, 3) := by decide +kernel
theorem dX11_symbol_8 : decode cX11_symbol 8 = .ok (.ifCond .eq 7, 3) := by decide +kernel
theorem dX11_symbol_11 : decode cX11_symbol 11 = .ok (.iload_n 2, 1) := by decide +kernel
theorem dX11_symbol_12 : decode cX11_symbol 12 = .ok (.ifCond .ge 5, 3) := by decide +kernel
theorem dX11_symbol_15 : decode cX11_symbol 15 = .ok (.iconst (-1), 1) := by decide +kernel
theorem dX11_symbol_16 : decode cX11_symbol 16 = .ok (.ireturn, 1) := by decide +kernel
theorem dX11_symbol_17 : decode cX11_symbol 17 = .ok (.iload_n 2, 1) := by decide +kernel
theorem dX11_symbol_18 : decode cX11_symbol 18 = .ok (.aload_n 0, 1) := by decide +kernel
theorem dX11_symbol_19 : decode cX11_symbol 19 = .ok (.getfield 68, 3) := by decide +kernel
theorem dX11_symbol_22 : decode cX11_symbol 22 = .ok (.iload_n 1, 1) := by decide +kernel
theorem dX11_symbol_23 : decode cX11_symbol 23 = .ok (.invokevirtual 120, 3) := by decide +kernel
theorem dX11_symbol_26 : decode cX11_symbol 26 = .ok (.if_icmp .ge 15, 3) := by decide +kernel
theorem dX11_symbol_29 : decode cX11_symbol 29 = .ok (.aload_n 0, 1) := by decide +kernel
theorem dX11_symbol_30 : decode cX11_symbol 30 = .ok (.getfield 68, 3) := by decide +kernel
theorem dX11_symbol_33 : decode cX11_symbol 33 = .ok (.iload_n 1, 1) := by decide +kernel
theorem dX11_symbol_34 : decode cX11_symbol 34 = .ok (.iload_n 2, 1) := by decide +kernel
theorem dX11_symbol_35 : decode cX11_symbol 35 = .ok (.invokevirtual 123, 3) := by decide +kernel
theorem dX11_symbol_38 : decode cX11_symbol 38 = .ok (.goto 5, 3) := by decide +kernel
theorem dX11_symbol_41 : decode cX11_symbol 41 = .ok (.bipush (-9), 2) := by decide +kernel
theorem dX11_symbol_43 : decode cX11_symbol 43 = .ok (.ireturn, 1) := by decide +kernel
theorem dX11_nonterminal_0 : decode cX11_nonterminal 0 = .ok (.iload_n 1, 1) := by decide +kernel
theorem dX11_nonterminal_1 : decode cX11_nonterminal 1 = .ok (.ifCond .lt 19, 3) := by decide +kernel
theorem dX11_nonterminal_4 : decode cX11_nonterminal 4 = .ok (.iload_n 1, 1) := by decide +kernel
theorem dX11_nonterminal_5 : decode cX11_nonterminal 5 = .ok (.bipush 6, 2) := by decide +kernel
theorem dX11_nonterminal_7 : decode cX11_nonterminal 7 = .ok (.if_icmp .ge 13, 3) := by decide +kernel
theorem dX11_nonterminal_10 : decode cX11_nonterminal 10 = .ok (.iload_n 2, 1) := by decide +kernel
theorem dX11_nonterminal_11 : decode cX11_nonterminal 11 = .ok (.ifCond .lt 9, 3) := by decide +kernel
theorem dX11_nonterminal_14 : decode cX11_nonterminal 14 = .ok (.iload_n 2, 1) := by decide +kernel
theorem dX11_nonterminal_15 : decode cX11_nonterminal 15 = .ok (.bipush 7, 2) := by decide +kernel
theorem dX11_nonterminal_17 : decode cX11_nonterminal 17 = .ok (.if_icmp .le 5, 3) := by decide +kernel
theorem dX11_nonterminal_20 : decode cX11_nonterminal 20 = .ok (.iconst (-1), 1) := by decide +kernel
theorem dX11_nonterminal_21 : decode cX11_nonterminal 21 = .ok (.ireturn, 1) := by decide +kernel
theorem dX11_nonterminal_22 : decode cX11_nonterminal 22 = .ok (.iload_n 2, 1) := by decide +kernel
theorem dX11_nonterminal_23 : decode cX11_nonterminal 23 = .ok (.tableswitch 143 0 6 #[41, 53, 70, 89, 101, 113, 125], 41) := by decide +kernel
theorem dX11_nonterminal_64 : decode cX11_nonterminal 64 = .ok (.aload_n 0, 1) := by decide +kernel
theorem dX11_nonterminal_65 : decode cX11_nonterminal 65 = .ok (.getfield 68, 3) := by decide +kernel
theorem dX11_nonterminal_68 : decode cX11_nonterminal 68 = .ok (.invokevirtual 127, 3) := by decide +kernel
theorem dX11_nonterminal_71 : decode cX11_nonterminal 71 = .ok (.iload_n 1, 1) := by decide +kernel
theorem dX11_nonterminal_72 : decode cX11_nonterminal 72 = .ok (.invokestatic 130, 3) := by decide +kernel
theorem dX11_nonterminal_75 : decode cX11_nonterminal 75 = .ok (.ireturn, 1) := by decide +kernel
theorem dX11_nonterminal_76 : decode cX11_nonterminal 76 = .ok (.aload_n 0, 1) := by decide +kernel
theorem dX11_nonterminal_77 : decode cX11_nonterminal 77 = .ok (.getfield 33, 3) := by decide +kernel
theorem dX11_nonterminal_80 : decode cX11_nonterminal 80 = .ok (.iload_n 1, 1) := by decide +kernel
theorem dX11_nonterminal_81 : decode cX11_nonterminal 81 = .ok (.invokevirtual 133, 3) := by decide +kernel
theorem dX11_nonterminal_84 : decode cX11_nonterminal 84 = .ok (.ifCond .ne 7, 3) := by decide +kernel
theorem dX11_nonterminal_87 : decode cX11_nonterminal 87 = .ok (.iconst 1, 1) := by decide +kernel
theorem dX11_nonterminal_88 : decode cX11_nonterminal 88 = .ok (.goto 4, 3) := by decide +kernel
theorem dX11_nonterminal_91 : decode cX11_nonterminal 91 = .ok (.iconst 0, 1) := by decide +kernel
theorem dX11_nonterminal_92 : decode cX11_nonterminal 92 = .ok (.ireturn, 1) := by decide +kernel
theorem dX11_nonterminal_93 : decode cX11_nonterminal 93 = .ok (.aload_n 0, 1) := by decide +kernel
theorem dX11_nonterminal_94 : decode cX11_nonterminal 94 = .ok (.getfield 33, 3) := by decide +kernel
theorem dX11_nonterminal_97 : decode cX11_nonterminal 97 = .ok (.iload_n 1, 1) := by decide +kernel
theorem dX11_nonterminal_98 : decode cX11_nonterminal 98 = .ok (.invokevirtual 133, 3) := by decide +kernel
theorem dX11_nonterminal_101 : decode cX11_nonterminal 101 = .ok (.ldc 136, 2) := by decide +kernel
theorem dX11_nonterminal_103 : decode cX11_nonterminal 103 = .ok (.if_icmp .ge 7, 3) := by decide +kernel
theorem dX11_nonterminal_106 : decode cX11_nonterminal 106 = .ok (.iconst 1, 1) := by decide +kernel
theorem dX11_nonterminal_107 : decode cX11_nonterminal 107 = .ok (.goto 4, 3) := by decide +kernel
theorem dX11_nonterminal_110 : decode cX11_nonterminal 110 = .ok (.iconst 0, 1) := by decide +kernel
theorem dX11_nonterminal_111 : decode cX11_nonterminal 111 = .ok (.ireturn, 1) := by decide +kernel
theorem dX11_nonterminal_112 : decode cX11_nonterminal 112 = .ok (.aload_n 0, 1) := by decide +kernel
theorem dX11_nonterminal_113 : decode cX11_nonterminal 113 = .ok (.getfield 33, 3) := by decide +kernel
theorem dX11_nonterminal_116 : decode cX11_nonterminal 116 = .ok (.invokevirtual 137, 3) := by decide +kernel
theorem dX11_nonterminal_119 : decode cX11_nonterminal 119 = .ok (.iload_n 1, 1) := by decide +kernel
theorem dX11_nonterminal_120 : decode cX11_nonterminal 120 = .ok (.invokestatic 130, 3) := by decide +kernel
theorem dX11_nonterminal_123 : decode cX11_nonterminal 123 = .ok (.ireturn, 1) := by decide +kernel
theorem dX11_nonterminal_124 : decode cX11_nonterminal 124 = .ok (.aload_n 0, 1) := by decide +kernel
theorem dX11_nonterminal_125 : decode cX11_nonterminal 125 = .ok (.getfield 33, 3) := by decide +kernel
theorem dX11_nonterminal_128 : decode cX11_nonterminal 128 = .ok (.invokevirtual 140, 3) := by decide +kernel
theorem dX11_nonterminal_131 : decode cX11_nonterminal 131 = .ok (.iload_n 1, 1) := by decide +kernel
theorem dX11_nonterminal_132 : decode cX11_nonterminal 132 = .ok (.invokestatic 130, 3) := by decide +kernel
theorem dX11_nonterminal_135 : decode cX11_nonterminal 135 = .ok (.ireturn, 1) := by decide +kernel
theorem dX11_nonterminal_136 : decode cX11_nonterminal 136 = .ok (.aload_n 0, 1) := by decide +kernel
theorem dX11_nonterminal_137 : decode cX11_nonterminal 137 = .ok (.getfield 33, 3) := by decide +kernel
theorem dX11_nonterminal_140 : decode cX11_nonterminal 140 = .ok (.invokevirtual 143, 3) := by decide +kernel
theorem dX11_nonterminal_143 : decode cX11_nonterminal 143 = .ok (.iload_n 1, 1) := by decide +kernel
theorem dX11_nonterminal_144 : decode cX11_nonterminal 144 = .ok (.invokestatic 130, 3) := by decide +kernel
theorem dX11_nonterminal_147 : decode cX11_nonterminal 147 = .ok (.ireturn, 1) := by decide +kernel
theorem dX11_nonterminal_148 : decode cX11_nonterminal 148 = .ok (.aload_n 0, 1) := by decide +kernel
theorem dX11_nonterminal_149 : decode cX11_nonterminal 149 = .ok (.getfield 68, 3) := by decide +kernel
theorem dX11_nonterminal_152 : decode cX11_nonterminal 152 = .ok (.iload_n 1, 1) := by decide +kernel
theorem dX11_nonterminal_153 : decode cX11_nonterminal 153 = .ok (.invokevirtual 146, 3) := by decide +kernel
theorem dX11_nonterminal_156 : decode cX11_nonterminal 156 = .ok (.aload_n 0, 1) := by decide +kernel
theorem dX11_nonterminal_157 : decode cX11_nonterminal 157 = .ok (.getfield 68, 3) := by decide +kernel
theorem dX11_nonterminal_160 : decode cX11_nonterminal 160 = .ok (.iload_n 1, 1) := by decide +kernel
theorem dX11_nonterminal_161 : decode cX11_nonterminal 161 = .ok (.invokevirtual 149, 3) := by decide +kernel
theorem dX11_nonterminal_164 : decode cX11_nonterminal 164 = .ok (.isub, 1) := by decide +kernel
theorem dX11_nonterminal_165 : decode cX11_nonterminal 165 = .ok (.ireturn, 1) := by decide +kernel
theorem dX11_nonterminal_166 : decode cX11_nonterminal 166 = .ok (.aload_n 0, 1) := by decide +kernel
theorem dX11_nonterminal_167 : decode cX11_nonterminal 167 = .ok (.getfield 33, 3) := by decide +kernel
theorem dX11_nonterminal_170 : decode cX11_nonterminal 170 = .ok (.iload_n 1, 1) := by decide +kernel
theorem dX11_nonterminal_171 : decode cX11_nonterminal 171 = .ok (.invokevirtual 133, 3) := by decide +kernel
theorem dX11_nonterminal_174 : decode cX11_nonterminal 174 = .ok (.ldc 136, 2) := by decide +kernel
theorem dX11_nonterminal_176 : decode cX11_nonterminal 176 = .ok (.if_icmp .ge 14, 3) := by decide +kernel
theorem dX11_nonterminal_179 : decode cX11_nonterminal 179 = .ok (.aload_n 0, 1) := by decide +kernel
theorem dX11_nonterminal_180 : decode cX11_nonterminal 180 = .ok (.getfield 33, 3) := by decide +kernel
theorem dX11_nonterminal_183 : decode cX11_nonterminal 183 = .ok (.iload_n 1, 1) := by decide +kernel
theorem dX11_nonterminal_184 : decode cX11_nonterminal 184 = .ok (.invokevirtual 133, 3) := by decide +kernel
theorem dX11_nonterminal_187 : decode cX11_nonterminal 187 = .ok (.goto 5, 3) := by decide +kernel
theorem dX11_nonterminal_190 : decode cX11_nonterminal 190 = .ok (.bipush (-9), 2) := by decide +kernel
theorem dX11_nonterminal_192 : decode cX11_nonterminal 192 = .ok (.ireturn, 1) := by decide +kernel
theorem dX11_first_0 : decode cX11_first 0 = .ok (.aload_n 0, 1) := by decide +kernel
theorem dX11_first_1 : decode cX11_first 1 = .ok (.iload_n 1, 1) := by decide +kernel
theorem dX11_first_2 : decode cX11_first 2 = .ok (.invokevirtual 152, 3) := by decide +kernel
theorem dX11_first_5 : decode cX11_first 5 = .ok (.ifCond .eq 11, 3) := by decide +kernel
theorem dX11_first_8 : decode cX11_first 8 = .ok (.iload_n 3, 1) := by decide +kernel
theorem dX11_first_9 : decode cX11_first 9 = .ok (.iload_n 2, 1) := by decide +kernel
theorem dX11_first_10 : decode cX11_first 10 = .ok (.invokestatic 155, 3) := by decide +kernel
theorem dX11_first_13 : decode cX11_first 13 = .ok (.ifCond .ne 5, 3) := by decide +kernel
theorem dX11_first_16 : decode cX11_first 16 = .ok (.iconst (-1), 1) := by decide +kernel
theorem dX11_first_17 : decode cX11_first 17 = .ok (.ireturn, 1) := by decide +kernel
theorem dX11_first_18 : decode cX11_first 18 = .ok (.aload_n 0, 1) := by decide +kernel
theorem dX11_first_19 : decode cX11_first 19 = .ok (.getfield 40, 3) := by decide +kernel
theorem dX11_first_22 : decode cX11_first 22 = .ok (.iload_n 1, 1) := by decide +kernel
theorem dX11_first_23 : decode cX11_first 23 = .ok (.invokevirtual 159, 3) := by decide +kernel
theorem dX11_first_26 : decode cX11_first 26 = .ok (.iload_n 3, 1) := by decide +kernel
theorem dX11_first_27 : decode cX11_first 27 = .ok (.iload_n 2, 1) := by decide +kernel
theorem dX11_first_28 : decode cX11_first 28 = .ok (.invokevirtual 163, 3) := by decide +kernel
theorem dX11_first_31 : decode cX11_first 31 = .ok (.ifCond .eq 7, 3) := by decide +kernel
theorem dX11_first_34 : decode cX11_first 34 = .ok (.iconst 1, 1) := by decide +kernel
theorem dX11_first_35 : decode cX11_first 35 = .ok (.goto 4, 3) := by decide +kernel
theorem dX11_first_38 : decode cX11_first 38 = .ok (.iconst 0, 1) := by decide +kernel
theorem dX11_first_39 : decode cX11_first 39 = .ok (.ireturn, 1) := by decide +kernel
theorem dX11_follow_0 : decode cX11_follow 0 = .ok (.aload_n 0, 1) := by decide +kernel
theorem dX11_follow_1 : decode cX11_follow 1 = .ok (.iload_n 1, 1) := by decide +kernel
theorem dX11_follow_2 : decode cX11_follow 2 = .ok (.invokevirtual 152, 3) := by decide +kernel
theorem dX11_follow_5 : decode cX11_follow 5 = .ok (.ifCond .eq 11, 3) := by decide +kernel
theorem dX11_follow_8 : decode cX11_follow 8 = .ok (.iload_n 3, 1) := by decide +kernel
theorem dX11_follow_9 : decode cX11_follow 9 = .ok (.iload_n 2, 1) := by decide +kernel
theorem dX11_follow_10 : decode cX11_follow 10 = .ok (.invokestatic 155, 3) := by decide +kernel
theorem dX11_follow_13 : decode cX11_follow 13 = .ok (.ifCond .ne 5, 3) := by decide +kernel
theorem dX11_follow_16 : decode cX11_follow 16 = .ok (.iconst (-1), 1) := by decide +kernel
theorem dX11_follow_17 : decode cX11_follow 17 = .ok (.ireturn, 1) := by decide +kernel
theorem dX11_follow_18 : decode cX11_follow 18 = .ok (.aload_n 0, 1) := by decide +kernel
theorem dX11_follow_19 : decode cX11_follow 19 = .ok (.getfield 40, 3) := by decide +kernel
theorem dX11_follow_22 : decode cX11_follow 22 = .ok (.iload_n 1, 1) := by decide +kernel
theorem dX11_follow_23 : decode cX11_follow 23 = .ok (.invokevirtual 167, 3) := by decide +kernel
theorem dX11_follow_26 : decode cX11_follow 26 = .ok (.iload_n 3, 1) := by decide +kernel
theorem dX11_follow_27 : decode cX11_follow 27 = .ok (.iload_n 2, 1) := by decide +kernel
theorem dX11_follow_28 : decode cX11_follow 28 = .ok (.invokevirtual 163, 3) := by decide +kernel
theorem dX11_follow_31 : decode cX11_follow 31 = .ok (.ifCond .eq 7, 3) := by decide +kernel
theorem dX11_follow_34 : decode cX11_follow 34 = .ok (.iconst 1, 1) := by decide +kernel
theorem dX11_follow_35 : decode cX11_follow 35 = .ok (.goto 4, 3) := by decide +kernel
theorem dX11_follow_38 : decode cX11_follow 38 = .ok (.iconst 0, 1) := by decide +kernel
theorem dX11_follow_39 : decode cX11_follow 39 = .ok (.ireturn, 1) := by decide +kernel
theorem dX11_ahead_0 : decode cX11_ahead 0 = .ok (.aload_n 0, 1) := by decide +kernel
theorem dX11_ahead_1 : decode cX11_ahead 1 = .ok (.getfield 68, 3) := by decide +kernel
theorem dX11_ahead_4 : decode cX11_ahead 4 = .ok (.iload_n 1, 1) := by decide +kernel
theorem dX11_ahead_5 : decode cX11_ahead 5 = .ok (.invokevirtual 113, 3) := by decide +kernel
theorem dX11_ahead_8 : decode cX11_ahead 8 = .ok (.ifCond .eq 11, 3) := by decide +kernel
theorem dX11_ahead_11 : decode cX11_ahead 11 = .ok (.iload_n 3, 1) := by decide +kernel
theorem dX11_ahead_12 : decode cX11_ahead 12 = .ok (.iload_n 2, 1) := by decide +kernel
theorem dX11_ahead_13 : decode cX11_ahead 13 = .ok (.invokestatic 155, 3) := by decide +kernel
theorem dX11_ahead_16 : decode cX11_ahead 16 = .ok (.ifCond .ne 5, 3) := by decide +kernel
theorem dX11_ahead_19 : decode cX11_ahead 19 = .ok (.iconst (-1), 1) := by decide +kernel
theorem dX11_ahead_20 : decode cX11_ahead 20 = .ok (.ireturn, 1) := by decide +kernel
theorem dX11_ahead_21 : decode cX11_ahead 21 = .ok (.aload_n 0, 1) := by decide +kernel
theorem dX11_ahead_22 : decode cX11_ahead 22 = .ok (.getfield 40, 3) := by decide +kernel
theorem dX11_ahead_25 : decode cX11_ahead 25 = .ok (.iload_n 1, 1) := by decide +kernel
theorem dX11_ahead_26 : decode cX11_ahead 26 = .ok (.invokevirtual 170, 3) := by decide +kernel
theorem dX11_ahead_29 : decode cX11_ahead 29 = .ok (.iload_n 3, 1) := by decide +kernel
theorem dX11_ahead_30 : decode cX11_ahead 30 = .ok (.iload_n 2, 1) := by decide +kernel
theorem dX11_ahead_31 : decode cX11_ahead 31 = .ok (.invokevirtual 163, 3) := by decide +kernel
theorem dX11_ahead_34 : decode cX11_ahead 34 = .ok (.ifCond .eq 7, 3) := by decide +kernel
theorem dX11_ahead_37 : decode cX11_ahead 37 = .ok (.iconst 1, 1) := by decide +kernel
theorem dX11_ahead_38 : decode cX11_ahead 38 = .ok (.goto 4, 3) := by decide +kernel
theorem dX11_ahead_41 : decode cX11_ahead 41 = .ok (.iconst 0, 1) := by decide +kernel
theorem dX11_ahead_42 : decode cX11_ahead 42 = .ok (.ireturn, 1) := by decide +kernel
theorem dX11_words_0 : decode cX11_words 0 = .ok (.iload_n 1, 1) := by decide +kernel
theorem dX11_words_1 : decode cX11_words 1 = .ok (.ifCond .lt 15, 3) := by decide +kernel
theorem dX11_words_4 : decode cX11_words 4 = .ok (.iload_n 1, 1) := by decide +kernel
theorem dX11_words_5 : decode cX11_words 5 = .ok (.iconst 2, 1) := by decide +kernel
theorem dX11_words_6 : decode cX11_words 6 = .ok (.if_icmp .gt 10, 3) := by decide +kernel
theorem dX11_words_9 : decode cX11_words 9 = .ok (.iload_n 3, 1) := by decide +kernel
theorem dX11_words_10 : decode cX11_words 10 = .ok (.invokestatic 173, 3) := by decide +kernel
theorem dX11_words_13 : decode cX11_words 13 = .ok (.ifCond .ne 5, 3) := by decide +kernel
theorem dX11_words_16 : decode cX11_words 16 = .ok (.iconst (-1), 1) := by decide +kernel
theorem dX11_words_17 : decode cX11_words 17 = .ok (.ireturn, 1) := by decide +kernel
theorem dX11_words_18 : decode cX11_words 18 = .ok (.iload_n 1, 1) := by decide +kernel
theorem dX11_words_19 : decode cX11_words 19 = .ok (.iconst 2, 1) := by decide +kernel
theorem dX11_words_20 : decode cX11_words 20 = .ok (.if_icmp .ne 17, 3) := by decide +kernel
theorem dX11_words_23 : decode cX11_words 23 = .ok (.aload_n 0, 1) := by decide +kernel
theorem dX11_words_24 : decode cX11_words 24 = .ok (.getfield 68, 3) := by decide +kernel
theorem dX11_words_27 : decode cX11_words 27 = .ok (.iload_n 2, 1) := by decide +kernel
theorem dX11_words_28 : decode cX11_words 28 = .ok (.invokevirtual 113, 3) := by decide +kernel
theorem dX11_words_31 : decode cX11_words 31 = .ok (.ifCond .ne 16, 3) := by decide +kernel
theorem dX11_words_34 : decode cX11_words 34 = .ok (.goto 11, 3) := by decide +kernel
theorem dX11_words_37 : decode cX11_words 37 = .ok (.aload_n 0, 1) := by decide +kernel
theorem dX11_words_38 : decode cX11_words 38 = .ok (.iload_n 2, 1) := by decide +kernel
theorem dX11_words_39 : decode cX11_words 39 = .ok (.invokevirtual 152, 3) := by decide +kernel
theorem dX11_words_42 : decode cX11_words 42 = .ok (.ifCond .ne 5, 3) := by decide +kernel
theorem dX11_words_45 : decode cX11_words 45 = .ok (.iconst (-1), 1) := by decide +kernel
theorem dX11_words_46 : decode cX11_words 46 = .ok (.ireturn, 1) := by decide +kernel
theorem dX11_words_47 : decode cX11_words 47 = .ok (.iload_n 1, 1) := by decide +kernel
theorem dX11_words_48 : decode cX11_words 48 = .ok (.ifCond .ne 16, 3) := by decide +kernel
theorem dX11_words_51 : decode cX11_words 51 = .ok (.aload_n 0, 1) := by decide +kernel
theorem dX11_words_52 : decode cX11_words 52 = .ok (.getfield 40, 3) := by decide +kernel
theorem dX11_words_55 : decode cX11_words 55 = .ok (.iload_n 2, 1) := by decide +kernel
theorem dX11_words_56 : decode cX11_words 56 = .ok (.invokevirtual 159, 3) := by decide +kernel
theorem dX11_words_59 : decode cX11_words 59 = .ok (.iload_n 3, 1) := by decide +kernel
theorem dX11_words_60 : decode cX11_words 60 = .ok (.invokevirtual 176, 3) := by decide +kernel
theorem dX11_words_63 : decode cX11_words 63 = .ok (.ireturn, 1) := by decide +kernel
theorem dX11_words_64 : decode cX11_words 64 = .ok (.iload_n 1, 1) := by decide +kernel
theorem dX11_words_65 : decode cX11_words 65 = .ok (.iconst 1, 1) := by decide +kernel
theorem dX11_words_66 : decode cX11_words 66 = .ok (.if_icmp .ne 18, 3) := by decide +kernel
theorem dX11_words_69 : decode cX11_words 69 = .ok (.aload_n 0, 1) := by decide +kernel
theorem dX11_words_70 : decode cX11_words 70 = .ok (.getfield 40, 3) := by decide +kernel
theorem dX11_words_73 : decode cX11_words 73 = .ok (.iload_n 2, 1) := by decide +kernel
theorem dX11_words_74 : decode cX11_words 74 = .ok (.invokevirtual 167, 3) := by decide +kernel
theorem dX11_words_77 : decode cX11_words 77 = .ok (.iload_n 3, 1) := by decide +kernel
theorem dX11_words_78 : decode cX11_words 78 = .ok (.invokevirtual 176, 3) := by decide +kernel
theorem dX11_words_81 : decode cX11_words 81 = .ok (.goto 15, 3) := by decide +kernel
theorem dX11_words_84 : decode cX11_words 84 = .ok (.aload_n 0, 1) := by decide +kernel
theorem dX11_words_85 : decode cX11_words 85 = .ok (.getfield 40, 3) := by decide +kernel
theorem dX11_words_88 : decode cX11_words 88 = .ok (.iload_n 2, 1) := by decide +kernel
theorem dX11_words_89 : decode cX11_words 89 = .ok (.invokevirtual 170, 3) := by decide +kernel
theorem dX11_words_92 : decode cX11_words 92 = .ok (.iload_n 3, 1) := by decide +kernel
theorem dX11_words_93 : decode cX11_words 93 = .ok (.invokevirtual 176, 3) := by decide +kernel
theorem dX11_words_96 : decode cX11_words 96 = .ok (.ireturn, 1) := by decide +kernel
theorem dX11_word_0 : decode cX11_word 0 = .ok (.aload_n 0, 1) := by decide +kernel
theorem dX11_word_1 : decode cX11_word 1 = .ok (.getfield 68, 3) := by decide +kernel
theorem dX11_word_4 : decode cX11_word 4 = .ok (.iload_n 1, 1) := by decide +kernel
theorem dX11_word_5 : decode cX11_word 5 = .ok (.invokevirtual 113, 3) := by decide +kernel
theorem dX11_word_8 : decode cX11_word 8 = .ok (.ifCond .eq 14, 3) := by decide +kernel
theorem dX11_word_11 : decode cX11_word 11 = .ok (.iload_n 2, 1) := by decide +kernel
theorem dX11_word_12 : decode cX11_word 12 = .ok (.invokestatic 173, 3) := by decide +kernel
theorem dX11_word_15 : decode cX11_word 15 = .ok (.ifCond .eq 7, 3) := by decide +kernel
theorem dX11_word_18 : decode cX11_word 18 = .ok (.iload_n 3, 1) := by decide +kernel
theorem dX11_word_19 : decode cX11_word 19 = .ok (.ifCond .ge 5, 3) := by decide +kernel
theorem dX11_word_22 : decode cX11_word 22 = .ok (.iconst (-1), 1) := by decide +kernel
theorem dX11_word_23 : decode cX11_word 23 = .ok (.ireturn, 1) := by decide +kernel
theorem dX11_word_24 : decode cX11_word 24 = .ok (.aload_n 0, 1) := by decide +kernel
theorem dX11_word_25 : decode cX11_word 25 = .ok (.getfield 40, 3) := by decide +kernel
theorem dX11_word_28 : decode cX11_word 28 = .ok (.iload_n 1, 1) := by decide +kernel
theorem dX11_word_29 : decode cX11_word 29 = .ok (.invokevirtual 170, 3) := by decide +kernel
theorem dX11_word_32 : decode cX11_word 32 = .ok (.astore 4, 2) := by decide +kernel
theorem dX11_word_34 : decode cX11_word 34 = .ok (.iconst 0, 1) := by decide +kernel
theorem dX11_word_35 : decode cX11_word 35 = .ok (.istore 5, 2) := by decide +kernel
theorem dX11_word_37 : decode cX11_word 37 = .ok (.iconst 0, 1) := by decide +kernel
theorem dX11_word_38 : decode cX11_word 38 = .ok (.istore 6, 2) := by decide +kernel
theorem dX11_word_40 : decode cX11_word 40 = .ok (.iload 6, 2) := by decide +kernel
theorem dX11_word_42 : decode cX11_word 42 = .ok (.getstatic 178, 3) := by decide +kernel
theorem dX11_word_45 : decode cX11_word 45 = .ok (.iload_n 2, 1) := by decide +kernel
theorem dX11_word_46 : decode cX11_word 46 = .ok (.iaload, 1) := by decide +kernel
theorem dX11_word_47 : decode cX11_word 47 = .ok (.if_icmp .ge 41, 3) := by decide +kernel
theorem dX11_word_50 : decode cX11_word 50 = .ok (.iload 6, 2) := by decide +kernel
theorem dX11_word_52 : decode cX11_word 52 = .ok (.iload_n 2, 1) := by decide +kernel
theorem dX11_word_53 : decode cX11_word 53 = .ok (.invokestatic 155, 3) := by decide +kernel
theorem dX11_word_56 : decode cX11_word 56 = .ok (.ifCond .eq 26, 3) := by decide +kernel
theorem dX11_word_59 : decode cX11_word 59 = .ok (.aload 4, 2) := by decide +kernel
theorem dX11_word_61 : decode cX11_word 61 = .ok (.iload 6, 2) := by decide +kernel
theorem dX11_word_63 : decode cX11_word 63 = .ok (.iload_n 2, 1) := by decide +kernel
theorem dX11_word_64 : decode cX11_word 64 = .ok (.invokevirtual 163, 3) := by decide +kernel
theorem dX11_word_67 : decode cX11_word 67 = .ok (.ifCond .eq 15, 3) := by decide +kernel
theorem dX11_word_70 : decode cX11_word 70 = .ok (.iload 5, 2) := by decide +kernel
theorem dX11_word_72 : decode cX11_word 72 = .ok (.iload_n 3, 1) := by decide +kernel
theorem dX11_word_73 : decode cX11_word 73 = .ok (.if_icmp .ne 6, 3) := by decide +kernel
theorem dX11_word_76 : decode cX11_word 76 = .ok (.iload 6, 2) := by decide +kernel
theorem dX11_word_78 : decode cX11_word 78 = .ok (.ireturn, 1) := by decide +kernel
theorem dX11_word_79 : decode cX11_word 79 = .ok (.iinc 5 1, 3) := by decide +kernel
theorem dX11_word_82 : decode cX11_word 82 = .ok (.iinc 6 1, 3) := by decide +kernel
theorem dX11_word_85 : decode cX11_word 85 = .ok (.goto (-45), 3) := by decide +kernel
theorem dX11_word_88 : decode cX11_word 88 = .ok (.bipush (-9), 2) := by decide +kernel
theorem dX11_word_90 : decode cX11_word 90 = .ok (.ireturn, 1) := by decide +kernel
theorem dX11_marks_0 : decode cX11_marks 0 = .ok (.aload_n 0, 1) := by decide +kernel
theorem dX11_marks_1 : decode cX11_marks 1 = .ok (.getfield 68, 3) := by decide +kernel
theorem dX11_marks_4 : decode cX11_marks 4 = .ok (.iload_n 1, 1) := by decide +kernel
theorem dX11_marks_5 : decode cX11_marks 5 = .ok (.invokevirtual 113, 3) := by decide +kernel
theorem dX11_marks_8 : decode cX11_marks 8 = .ok (.ifCond .eq 12, 3) := by decide +kernel
theorem dX11_marks_11 : decode cX11_marks 11 = .ok (.iload_n 2, 1) := by decide +kernel
theorem dX11_marks_12 : decode cX11_marks 12 = .ok (.ifCond .lt 8, 3) := by decide +kernel
theorem dX11_marks_15 : decode cX11_marks 15 = .ok (.iload_n 2, 1) := by decide +kernel
theorem dX11_marks_16 : decode cX11_marks 16 = .ok (.iconst 3, 1) := by decide +kernel
theorem dX11_marks_17 : decode cX11_marks 17 = .ok (.if_icmp .lt 5, 3) := by decide +kernel
theorem dX11_marks_20 : decode cX11_marks 20 = .ok (.iconst (-1), 1) := by decide +kernel
theorem dX11_marks_21 : decode cX11_marks 21 = .ok (.ireturn, 1) := by decide +kernel
theorem dX11_marks_22 : decode cX11_marks 22 = .ok (.aload_n 0, 1) := by decide +kernel
theorem dX11_marks_23 : decode cX11_marks 23 = .ok (.getfield 40, 3) := by decide +kernel
theorem dX11_marks_26 : decode cX11_marks 26 = .ok (.iload_n 1, 1) := by decide +kernel
theorem dX11_marks_27 : decode cX11_marks 27 = .ok (.invokevirtual 170, 3) := by decide +kernel
theorem dX11_marks_30 : decode cX11_marks 30 = .ok (.iload_n 2, 1) := by decide +kernel
theorem dX11_marks_31 : decode cX11_marks 31 = .ok (.invokevirtual 182, 3) := by decide +kernel
theorem dX11_marks_34 : decode cX11_marks 34 = .ok (.ireturn, 1) := by decide +kernel
theorem dX11_depth_0 : decode cX11_depth 0 = .ok (.aload_n 0, 1) := by decide +kernel
theorem dX11_depth_1 : decode cX11_depth 1 = .ok (.iload_n 1, 1) := by decide +kernel
theorem dX11_depth_2 : decode cX11_depth 2 = .ok (.invokevirtual 152, 3) := by decide +kernel
theorem dX11_depth_5 : decode cX11_depth 5 = .ok (.ifCond .eq 14, 3) := by decide +kernel
theorem dX11_depth_8 : decode cX11_depth 8 = .ok (.aload_n 0, 1) := by decide +kernel
theorem dX11_depth_9 : decode cX11_depth 9 = .ok (.getfield 40, 3) := by decide +kernel
theorem dX11_depth_12 : decode cX11_depth 12 = .ok (.iload_n 1, 1) := by decide +kernel
theorem dX11_depth_13 : decode cX11_depth 13 = .ok (.invokevirtual 185, 3) := by decide +kernel
theorem dX11_depth_16 : decode cX11_depth 16 = .ok (.goto 4, 3) := by decide +kernel
theorem dX11_depth_19 : decode cX11_depth 19 = .ok (.iconst (-1), 1) := by decide +kernel
theorem dX11_depth_20 : decode cX11_depth 20 = .ok (.ireturn, 1) := by decide +kernel
theorem dX11_approximate_0 : decode cX11_approximate 0 = .ok (.aload_n 0, 1) := by decide +kernel
theorem dX11_approximate_1 : decode cX11_approximate 1 = .ok (.iload_n 1, 1) := by decide +kernel
theorem dX11_approximate_2 : decode cX11_approximate 2 = .ok (.invokevirtual 152, 3) := by decide +kernel
theorem dX11_approximate_5 : decode cX11_approximate 5 = .ok (.ifCond .eq 14, 3) := by decide +kernel
theorem dX11_approximate_8 : decode cX11_approximate 8 = .ok (.aload_n 0, 1) := by decide +kernel
theorem dX11_approximate_9 : decode cX11_approximate 9 = .ok (.getfield 40, 3) := by decide +kernel
theorem dX11_approximate_12 : decode cX11_approximate 12 = .ok (.iload_n 1, 1) := by decide +kernel
theorem dX11_approximate_13 : decode cX11_approximate 13 = .ok (.invokevirtual 188, 3) := by decide +kernel
theorem dX11_approximate_16 : decode cX11_approximate 16 = .ok (.goto 4, 3) := by decide +kernel
theorem dX11_approximate_19 : decode cX11_approximate 19 = .ok (.iconst (-1), 1) := by decide +kernel
theorem dX11_approximate_20 : decode cX11_approximate 20 = .ok (.ireturn, 1) := by decide +kernel
theorem dX11_deepest_0 : decode cX11_deepest 0 = .ok (.iconst 0, 1) := by decide +kernel
theorem dX11_deepest_1 : decode cX11_deepest 1 = .ok (.istore_n 2, 1) := by decide +kernel
theorem dX11_deepest_2 : decode cX11_deepest 2 = .ok (.iconst 0, 1) := by decide +kernel
theorem dX11_deepest_3 : decode cX11_deepest 3 = .ok (.istore_n 3, 1) := by decide +kernel
theorem dX11_deepest_4 : decode cX11_deepest 4 = .ok (.iload_n 3, 1) := by decide +kernel
theorem dX11_deepest_5 : decode cX11_deepest 5 = .ok (.bipush 6, 2) := by decide +kernel
theorem dX11_deepest_7 : decode cX11_deepest 7 = .ok (.if_icmp .ge 59, 3) := by decide +kernel
theorem dX11_deepest_10 : decode cX11_deepest 10 = .ok (.aload_n 0, 1) := by decide +kernel
theorem dX11_deepest_11 : decode cX11_deepest 11 = .ok (.iload_n 3, 1) := by decide +kernel
theorem dX11_deepest_12 : decode cX11_deepest 12 = .ok (.invokevirtual 152, 3) := by decide +kernel
theorem dX11_deepest_15 : decode cX11_deepest 15 = .ok (.ifCond .eq 45, 3) := by decide +kernel
theorem dX11_deepest_18 : decode cX11_deepest 18 = .ok (.iload_n 1, 1) := by decide +kernel
theorem dX11_deepest_19 : decode cX11_deepest 19 = .ok (.ifCond .eq 14, 3) := by decide +kernel
theorem dX11_deepest_22 : decode cX11_deepest 22 = .ok (.aload_n 0, 1) := by decide +kernel
theorem dX11_deepest_23 : decode cX11_deepest 23 = .ok (.getfield 40, 3) := by decide +kernel
theorem dX11_deepest_26 : decode cX11_deepest 26 = .ok (.iload_n 3, 1) := by decide +kernel
theorem dX11_deepest_27 : decode cX11_deepest 27 = .ok (.invokevirtual 188, 3) := by decide +kernel
theorem dX11_deepest_30 : decode cX11_deepest 30 = .ok (.goto 11, 3) := by decide +kernel
theorem dX11_deepest_33 : decode cX11_deepest 33 = .ok (.aload_n 0, 1) := by decide +kernel
theorem dX11_deepest_34 : decode cX11_deepest 34 = .ok (.getfield 40, 3) := by decide +kernel
theorem dX11_deepest_37 : decode cX11_deepest 37 = .ok (.iload_n 3, 1) := by decide +kernel
theorem dX11_deepest_38 : decode cX11_deepest 38 = .ok (.invokevirtual 185, 3) := by decide +kernel
theorem dX11_deepest_41 : decode cX11_deepest 41 = .ok (.istore 4, 2) := by decide +kernel
theorem dX11_deepest_43 : decode cX11_deepest 43 = .ok (.iload 4, 2) := by decide +kernel
theorem dX11_deepest_45 : decode cX11_deepest 45 = .ok (.bipush (-9), 2) := by decide +kernel
theorem dX11_deepest_47 : decode cX11_deepest 47 = .ok (.if_icmp .ne 6, 3) := by decide +kernel
theorem dX11_deepest_50 : decode cX11_deepest 50 = .ok (.bipush (-9), 2) := by decide +kernel
theorem dX11_deepest_52 : decode cX11_deepest 52 = .ok (.ireturn, 1) := by decide +kernel
theorem dX11_deepest_53 : decode cX11_deepest 53 = .ok (.iload_n 2, 1) := by decide +kernel
theorem dX11_deepest_54 : decode cX11_deepest 54 = .ok (.iload 4, 2) := by decide +kernel
theorem dX11_deepest_56 : decode cX11_deepest 56 = .ok (.invokestatic 191, 3) := by decide +kernel
theorem dX11_deepest_59 : decode cX11_deepest 59 = .ok (.istore_n 2, 1) := by decide +kernel
theorem dX11_deepest_60 : decode cX11_deepest 60 = .ok (.iinc 3 1, 3) := by decide +kernel
theorem dX11_deepest_63 : decode cX11_deepest 63 = .ok (.goto (-59), 3) := by decide +kernel
theorem dX11_deepest_66 : decode cX11_deepest 66 = .ok (.iload_n 2, 1) := by decide +kernel
theorem dX11_deepest_67 : decode cX11_deepest 67 = .ok (.ireturn, 1) := by decide +kernel
theorem dX11_clash_0 : decode cX11_clash 0 = .ok (.aload_n 0, 1) := by decide +kernel
theorem dX11_clash_1 : decode cX11_clash 1 = .ok (.iload_n 1, 1) := by decide +kernel
theorem dX11_clash_2 : decode cX11_clash 2 = .ok (.invokevirtual 152, 3) := by decide +kernel
theorem dX11_clash_5 : decode cX11_clash 5 = .ok (.ifCond .eq 10, 3) := by decide +kernel
theorem dX11_clash_8 : decode cX11_clash 8 = .ok (.iload_n 2, 1) := by decide +kernel
theorem dX11_clash_9 : decode cX11_clash 9 = .ok (.invokestatic 173, 3) := by decide +kernel
theorem dX11_clash_12 : decode cX11_clash 12 = .ok (.ifCond .ne 5, 3) := by decide +kernel
theorem dX11_clash_15 : decode cX11_clash 15 = .ok (.iconst (-1), 1) := by decide +kernel
theorem dX11_clash_16 : decode cX11_clash 16 = .ok (.ireturn, 1) := by decide +kernel
theorem dX11_clash_17 : decode cX11_clash 17 = .ok (.aload_n 0, 1) := by decide +kernel
theorem dX11_clash_18 : decode cX11_clash 18 = .ok (.getfield 40, 3) := by decide +kernel
theorem dX11_clash_21 : decode cX11_clash 21 = .ok (.aload_n 0, 1) := by decide +kernel
theorem dX11_clash_22 : decode cX11_clash 22 = .ok (.getfield 68, 3) := by decide +kernel
theorem dX11_clash_25 : decode cX11_clash 25 = .ok (.iload_n 1, 1) := by decide +kernel
theorem dX11_clash_26 : decode cX11_clash 26 = .ok (.iload_n 2, 1) := by decide +kernel
theorem dX11_clash_27 : decode cX11_clash 27 = .ok (.invokevirtual 196, 3) := by decide +kernel
theorem dX11_clash_30 : decode cX11_clash 30 = .ok (.ireturn, 1) := by decide +kernel
theorem dX11_clashWord_0 : decode cX11_clashWord 0 = .ok (.aload_n 0, 1) := by decide +kernel
theorem dX11_clashWord_1 : decode cX11_clashWord 1 = .ok (.getfield 68, 3) := by decide +kernel
theorem dX11_clashWord_4 : decode cX11_clashWord 4 = .ok (.iload_n 1, 1) := by decide +kernel
theorem dX11_clashWord_5 : decode cX11_clashWord 5 = .ok (.invokevirtual 113, 3) := by decide +kernel
theorem dX11_clashWord_8 : decode cX11_clashWord 8 = .ok (.ifCond .eq 21, 3) := by decide +kernel
theorem dX11_clashWord_11 : decode cX11_clashWord 11 = .ok (.aload_n 0, 1) := by decide +kernel
theorem dX11_clashWord_12 : decode cX11_clashWord 12 = .ok (.getfield 68, 3) := by decide +kernel
theorem dX11_clashWord_15 : decode cX11_clashWord 15 = .ok (.iload_n 2, 1) := by decide +kernel
theorem dX11_clashWord_16 : decode cX11_clashWord 16 = .ok (.invokevirtual 113, 3) := by decide +kernel
theorem dX11_clashWord_19 : decode cX11_clashWord 19 = .ok (.ifCond .eq 10, 3) := by decide +kernel
theorem dX11_clashWord_22 : decode cX11_clashWord 22 = .ok (.iload_n 3, 1) := by decide +kernel
theorem dX11_clashWord_23 : decode cX11_clashWord 23 = .ok (.invokestatic 173, 3) := by decide +kernel
theorem dX11_clashWord_26 : decode cX11_clashWord 26 = .ok (.ifCond .ne 5, 3) := by decide +kernel
theorem dX11_clashWord_29 : decode cX11_clashWord 29 = .ok (.iconst (-1), 1) := by decide +kernel
theorem dX11_clashWord_30 : decode cX11_clashWord 30 = .ok (.ireturn, 1) := by decide +kernel
theorem dX11_clashWord_31 : decode cX11_clashWord 31 = .ok (.aload_n 0, 1) := by decide +kernel
theorem dX11_clashWord_32 : decode cX11_clashWord 32 = .ok (.getfield 40, 3) := by decide +kernel
theorem dX11_clashWord_35 : decode cX11_clashWord 35 = .ok (.iload_n 1, 1) := by decide +kernel
theorem dX11_clashWord_36 : decode cX11_clashWord 36 = .ok (.invokevirtual 170, 3) := by decide +kernel
theorem dX11_clashWord_39 : decode cX11_clashWord 39 = .ok (.astore 4, 2) := by decide +kernel
theorem dX11_clashWord_41 : decode cX11_clashWord 41 = .ok (.aload_n 0, 1) := by decide +kernel
theorem dX11_clashWord_42 : decode cX11_clashWord 42 = .ok (.getfield 40, 3) := by decide +kernel
theorem dX11_clashWord_45 : decode cX11_clashWord 45 = .ok (.iload_n 2, 1) := by decide +kernel
theorem dX11_clashWord_46 : decode cX11_clashWord 46 = .ok (.invokevirtual 170, 3) := by decide +kernel
theorem dX11_clashWord_49 : decode cX11_clashWord 49 = .ok (.astore 5, 2) := by decide +kernel
theorem dX11_clashWord_51 : decode cX11_clashWord 51 = .ok (.iconst 0, 1) := by decide +kernel
theorem dX11_clashWord_52 : decode cX11_clashWord 52 = .ok (.istore 6, 2) := by decide +kernel
theorem dX11_clashWord_54 : decode cX11_clashWord 54 = .ok (.iload 6, 2) := by decide +kernel
theorem dX11_clashWord_56 : decode cX11_clashWord 56 = .ok (.getstatic 178, 3) := by decide +kernel
theorem dX11_clashWord_59 : decode cX11_clashWord 59 = .ok (.iload_n 3, 1) := by decide +kernel
theorem dX11_clashWord_60 : decode cX11_clashWord 60 = .ok (.iaload, 1) := by decide +kernel
theorem dX11_clashWord_61 : decode cX11_clashWord 61 = .ok (.if_icmp .ge 43, 3) := by decide +kernel
theorem dX11_clashWord_64 : decode cX11_clashWord 64 = .ok (.iload 6, 2) := by decide +kernel
theorem dX11_clashWord_66 : decode cX11_clashWord 66 = .ok (.iload_n 3, 1) := by decide +kernel
theorem dX11_clashWord_67 : decode cX11_clashWord 67 = .ok (.invokestatic 155, 3) := by decide +kernel
theorem dX11_clashWord_70 : decode cX11_clashWord 70 = .ok (.ifCond .eq 28, 3) := by decide +kernel
theorem dX11_clashWord_73 : decode cX11_clashWord 73 = .ok (.aload 4, 2) := by decide +kernel
theorem dX11_clashWord_75 : decode cX11_clashWord 75 = .ok (.iload 6, 2) := by decide +kernel
theorem dX11_clashWord_77 : decode cX11_clashWord 77 = .ok (.iload_n 3, 1) := by decide +kernel
theorem dX11_clashWord_78 : decode cX11_clashWord 78 = .ok (.invokevirtual 163, 3) := by decide +kernel
theorem dX11_clashWord_81 : decode cX11_clashWord 81 = .ok (.ifCond .eq 17, 3) := by decide +kernel
theorem dX11_clashWord_84 : decode cX11_clashWord 84 = .ok (.aload 5, 2) := by decide +kernel
theorem dX11_clashWord_86 : decode cX11_clashWord 86 = .ok (.iload 6, 2) := by decide +kernel
theorem dX11_clashWord_88 : decode cX11_clashWord 88 = .ok (.iload_n 3, 1) := by decide +kernel
theorem dX11_clashWord_89 : decode cX11_clashWord 89 = .ok (.invokevirtual 163, 3) := by decide +kernel
theorem dX11_clashWord_92 : decode cX11_clashWord 92 = .ok (.ifCond .eq 6, 3) := by decide +kernel
theorem dX11_clashWord_95 : decode cX11_clashWord 95 = .ok (.iload 6, 2) := by decide +kernel
theorem dX11_clashWord_97 : decode cX11_clashWord 97 = .ok (.ireturn, 1) := by decide +kernel
theorem dX11_clashWord_98 : decode cX11_clashWord 98 = .ok (.iinc 6 1, 3) := by decide +kernel
theorem dX11_clashWord_101 : decode cX11_clashWord 101 = .ok (.goto (-47), 3) := by decide +kernel
theorem dX11_clashWord_104 : decode cX11_clashWord 104 = .ok (.bipush (-9), 2) := by decide +kernel
theorem dX11_clashWord_106 : decode cX11_clashWord 106 = .ok (.ireturn, 1) := by decide +kernel
theorem dX11_parse_0 : decode cX11_parse 0 = .ok (.aload_n 0, 1) := by decide +kernel
theorem dX11_parse_1 : decode cX11_parse 1 = .ok (.getfield 47, 3) := by decide +kernel
theorem dX11_parse_4 : decode cX11_parse 4 = .ok (.invokevirtual 200, 3) := by decide +kernel
theorem dX11_parse_7 : decode cX11_parse 7 = .ok (.aload_n 0, 1) := by decide +kernel
theorem dX11_parse_8 : decode cX11_parse 8 = .ok (.iconst 0, 1) := by decide +kernel
theorem dX11_parse_9 : decode cX11_parse 9 = .ok (.invokevirtual 201, 3) := by decide +kernel
theorem dX11_parse_12 : decode cX11_parse 12 = .ok (.bipush (-9), 2) := by decide +kernel
theorem dX11_parse_14 : decode cX11_parse 14 = .ok (.if_icmp .eq 13, 3) := by decide +kernel
theorem dX11_parse_17 : decode cX11_parse 17 = .ok (.aload_n 0, 1) := by decide +kernel
theorem dX11_parse_18 : decode cX11_parse 18 = .ok (.getfield 33, 3) := by decide +kernel
theorem dX11_parse_21 : decode cX11_parse 21 = .ok (.invokevirtual 205, 3) := by decide +kernel
theorem dX11_parse_24 : decode cX11_parse 24 = .ok (.ifCond .eq 6, 3) := by decide +kernel
theorem dX11_parse_27 : decode cX11_parse 27 = .ok (.bipush (-2), 2) := by decide +kernel
theorem dX11_parse_29 : decode cX11_parse 29 = .ok (.ireturn, 1) := by decide +kernel
theorem dX11_parse_30 : decode cX11_parse 30 = .ok (.aload_n 0, 1) := by decide +kernel
theorem dX11_parse_31 : decode cX11_parse 31 = .ok (.getfield 10, 3) := by decide +kernel
theorem dX11_parse_34 : decode cX11_parse 34 = .ok (.invokevirtual 209, 3) := by decide +kernel
theorem dX11_parse_37 : decode cX11_parse 37 = .ok (.istore_n 1, 1) := by decide +kernel
theorem dX11_parse_38 : decode cX11_parse 38 = .ok (.iload_n 1, 1) := by decide +kernel
theorem dX11_parse_39 : decode cX11_parse 39 = .ok (.bipush (-9), 2) := by decide +kernel
theorem dX11_parse_41 : decode cX11_parse 41 = .ok (.if_icmp .eq 8, 3) := by decide +kernel
theorem dX11_parse_44 : decode cX11_parse 44 = .ok (.bipush (-100), 2) := by decide +kernel
theorem dX11_parse_46 : decode cX11_parse 46 = .ok (.iload_n 1, 1) := by decide +kernel
theorem dX11_parse_47 : decode cX11_parse 47 = .ok (.isub, 1) := by decide +kernel
theorem dX11_parse_48 : decode cX11_parse 48 = .ok (.ireturn, 1) := by decide +kernel
theorem dX11_parse_49 : decode cX11_parse 49 = .ok (.aload_n 0, 1) := by decide +kernel
theorem dX11_parse_50 : decode cX11_parse 50 = .ok (.getfield 47, 3) := by decide +kernel
theorem dX11_parse_53 : decode cX11_parse 53 = .ok (.aload_n 0, 1) := by decide +kernel
theorem dX11_parse_54 : decode cX11_parse 54 = .ok (.getfield 68, 3) := by decide +kernel
theorem dX11_parse_57 : decode cX11_parse 57 = .ok (.aload_n 0, 1) := by decide +kernel
theorem dX11_parse_58 : decode cX11_parse 58 = .ok (.getfield 40, 3) := by decide +kernel
theorem dX11_parse_61 : decode cX11_parse 61 = .ok (.aload_n 0, 1) := by decide +kernel
theorem dX11_parse_62 : decode cX11_parse 62 = .ok (.getfield 10, 3) := by decide +kernel
theorem dX11_parse_65 : decode cX11_parse 65 = .ok (.invokevirtual 212, 3) := by decide +kernel
theorem dX11_parse_68 : decode cX11_parse 68 = .ok (.ireturn, 1) := by decide +kernel
theorem dX11_chosen_0 : decode cX11_chosen 0 = .ok (.iload_n 1, 1) := by decide +kernel
theorem dX11_chosen_1 : decode cX11_chosen 1 = .ok (.ifCond .ge 5, 3) := by decide +kernel
theorem dX11_chosen_4 : decode cX11_chosen 4 = .ok (.iconst (-1), 1) := by decide +kernel
theorem dX11_chosen_5 : decode cX11_chosen 5 = .ok (.ireturn, 1) := by decide +kernel
theorem dX11_chosen_6 : decode cX11_chosen 6 = .ok (.iload_n 1, 1) := by decide +kernel
theorem dX11_chosen_7 : decode cX11_chosen 7 = .ok (.aload_n 0, 1) := by decide +kernel
theorem dX11_chosen_8 : decode cX11_chosen 8 = .ok (.getfield 47, 3) := by decide +kernel
theorem dX11_chosen_11 : decode cX11_chosen 11 = .ok (.invokevirtual 216, 3) := by decide +kernel
theorem dX11_chosen_14 : decode cX11_chosen 14 = .ok (.if_icmp .ge 14, 3) := by decide +kernel
theorem dX11_chosen_17 : decode cX11_chosen 17 = .ok (.aload_n 0, 1) := by decide +kernel
theorem dX11_chosen_18 : decode cX11_chosen 18 = .ok (.getfield 47, 3) := by decide +kernel
theorem dX11_chosen_21 : decode cX11_chosen 21 = .ok (.iload_n 1, 1) := by decide +kernel
theorem dX11_chosen_22 : decode cX11_chosen 22 = .ok (.invokevirtual 217, 3) := by decide +kernel
theorem dX11_chosen_25 : decode cX11_chosen 25 = .ok (.goto 5, 3) := by decide +kernel
theorem dX11_chosen_28 : decode cX11_chosen 28 = .ok (.bipush (-9), 2) := by decide +kernel
theorem dX11_chosen_30 : decode cX11_chosen 30 = .ok (.ireturn, 1) := by decide +kernel
theorem dX11_derivations_0 : decode cX11_derivations 0 = .ok (.aload_n 0, 1) := by decide +kernel
theorem dX11_derivations_1 : decode cX11_derivations 1 = .ok (.getfield 33, 3) := by decide +kernel
theorem dX11_derivations_4 : decode cX11_derivations 4 = .ok (.invokevirtual 220, 3) := by decide +kernel
theorem dX11_derivations_7 : decode cX11_derivations 7 = .ok (.ifCond .eq 6, 3) := by decide +kernel
theorem dX11_derivations_10 : decode cX11_derivations 10 = .ok (.bipush (-2), 2) := by decide +kernel
theorem dX11_derivations_12 : decode cX11_derivations 12 = .ok (.ireturn, 1) := by decide +kernel
theorem dX11_derivations_13 : decode cX11_derivations 13 = .ok (.aload_n 0, 1) := by decide +kernel
theorem dX11_derivations_14 : decode cX11_derivations 14 = .ok (.getfield 10, 3) := by decide +kernel
theorem dX11_derivations_17 : decode cX11_derivations 17 = .ok (.invokevirtual 209, 3) := by decide +kernel
theorem dX11_derivations_20 : decode cX11_derivations 20 = .ok (.istore_n 1, 1) := by decide +kernel
theorem dX11_derivations_21 : decode cX11_derivations 21 = .ok (.iload_n 1, 1) := by decide +kernel
theorem dX11_derivations_22 : decode cX11_derivations 22 = .ok (.bipush (-9), 2) := by decide +kernel
theorem dX11_derivations_24 : decode cX11_derivations 24 = .ok (.if_icmp .eq 8, 3) := by decide +kernel
theorem dX11_derivations_27 : decode cX11_derivations 27 = .ok (.bipush (-100), 2) := by decide +kernel
theorem dX11_derivations_29 : decode cX11_derivations 29 = .ok (.iload_n 1, 1) := by decide +kernel
theorem dX11_derivations_30 : decode cX11_derivations 30 = .ok (.isub, 1) := by decide +kernel
theorem dX11_derivations_31 : decode cX11_derivations 31 = .ok (.ireturn, 1) := by decide +kernel
theorem dX11_derivations_32 : decode cX11_derivations 32 = .ok (.aload_n 0, 1) := by decide +kernel
theorem dX11_derivations_33 : decode cX11_derivations 33 = .ok (.getfield 54, 3) := by decide +kernel
theorem dX11_derivations_36 : decode cX11_derivations 36 = .ok (.aload_n 0, 1) := by decide +kernel
theorem dX11_derivations_37 : decode cX11_derivations 37 = .ok (.getfield 68, 3) := by decide +kernel
theorem dX11_derivations_40 : decode cX11_derivations 40 = .ok (.aload_n 0, 1) := by decide +kernel
theorem dX11_derivations_41 : decode cX11_derivations 41 = .ok (.getfield 33, 3) := by decide +kernel
theorem dX11_derivations_44 : decode cX11_derivations 44 = .ok (.aload_n 0, 1) := by decide +kernel
theorem dX11_derivations_45 : decode cX11_derivations 45 = .ok (.getfield 10, 3) := by decide +kernel
theorem dX11_derivations_48 : decode cX11_derivations 48 = .ok (.invokevirtual 223, 3) := by decide +kernel
theorem dX11_derivations_51 : decode cX11_derivations 51 = .ok (.ireturn, 1) := by decide +kernel
theorem dX11_step_0 : decode cX11_step 0 = .ok (.iload_n 1, 1) := by decide +kernel
theorem dX11_step_1 : decode cX11_step 1 = .ok (.ifCond .lt 19, 3) := by decide +kernel
theorem dX11_step_4 : decode cX11_step 4 = .ok (.iload_n 1, 1) := by decide +kernel
theorem dX11_step_5 : decode cX11_step 5 = .ok (.iconst 1, 1) := by decide +kernel
theorem dX11_step_6 : decode cX11_step 6 = .ok (.if_icmp .gt 14, 3) := by decide +kernel
theorem dX11_step_9 : decode cX11_step 9 = .ok (.iload_n 2, 1) := by decide +kernel
theorem dX11_step_10 : decode cX11_step 10 = .ok (.ifCond .lt 10, 3) := by decide +kernel
theorem dX11_step_13 : decode cX11_step 13 = .ok (.iload_n 2, 1) := by decide +kernel
theorem dX11_step_14 : decode cX11_step 14 = .ok (.sipush 200, 3) := by decide +kernel
theorem dX11_step_17 : decode cX11_step 17 = .ok (.if_icmp .lt 5, 3) := by decide +kernel
theorem dX11_step_20 : decode cX11_step 20 = .ok (.iconst (-1), 1) := by decide +kernel
theorem dX11_step_21 : decode cX11_step 21 = .ok (.ireturn, 1) := by decide +kernel
theorem dX11_step_22 : decode cX11_step 22 = .ok (.aload_n 0, 1) := by decide +kernel
theorem dX11_step_23 : decode cX11_step 23 = .ok (.invokevirtual 227, 3) := by decide +kernel
theorem dX11_step_26 : decode cX11_step 26 = .ok (.istore_n 3, 1) := by decide +kernel
theorem dX11_step_27 : decode cX11_step 27 = .ok (.iload_n 3, 1) := by decide +kernel
theorem dX11_step_28 : decode cX11_step 28 = .ok (.ifCond .ge 5, 3) := by decide +kernel
theorem dX11_step_31 : decode cX11_step 31 = .ok (.iload_n 3, 1) := by decide +kernel
theorem dX11_step_32 : decode cX11_step 32 = .ok (.ireturn, 1) := by decide +kernel
theorem dX11_step_33 : decode cX11_step 33 = .ok (.aload_n 0, 1) := by decide +kernel
theorem dX11_step_34 : decode cX11_step 34 = .ok (.getfield 54, 3) := by decide +kernel
theorem dX11_step_37 : decode cX11_step 37 = .ok (.aload_n 0, 1) := by decide +kernel
theorem dX11_step_38 : decode cX11_step 38 = .ok (.getfield 68, 3) := by decide +kernel
theorem dX11_step_41 : decode cX11_step 41 = .ok (.iload_n 1, 1) := by decide +kernel
theorem dX11_step_42 : decode cX11_step 42 = .ok (.iload_n 2, 1) := by decide +kernel
theorem dX11_step_43 : decode cX11_step 43 = .ok (.invokevirtual 230, 3) := by decide +kernel
theorem dX11_step_46 : decode cX11_step 46 = .ok (.ireturn, 1) := by decide +kernel
theorem dX11_ambiguous_0 : decode cX11_ambiguous 0 = .ok (.aload_n 0, 1) := by decide +kernel
theorem dX11_ambiguous_1 : decode cX11_ambiguous 1 = .ok (.getfield 33, 3) := by decide +kernel
theorem dX11_ambiguous_4 : decode cX11_ambiguous 4 = .ok (.invokevirtual 220, 3) := by decide +kernel
theorem dX11_ambiguous_7 : decode cX11_ambiguous 7 = .ok (.ifCond .eq 6, 3) := by decide +kernel
theorem dX11_ambiguous_10 : decode cX11_ambiguous 10 = .ok (.bipush (-2), 2) := by decide +kernel
theorem dX11_ambiguous_12 : decode cX11_ambiguous 12 = .ok (.ireturn, 1) := by decide +kernel
theorem dX11_ambiguous_13 : decode cX11_ambiguous 13 = .ok (.aload_n 0, 1) := by decide +kernel
theorem dX11_ambiguous_14 : decode cX11_ambiguous 14 = .ok (.getfield 61, 3) := by decide +kernel
theorem dX11_ambiguous_17 : decode cX11_ambiguous 17 = .ok (.aload_n 0, 1) := by decide +kernel
theorem dX11_ambiguous_18 : decode cX11_ambiguous 18 = .ok (.getfield 68, 3) := by decide +kernel
theorem dX11_ambiguous_21 : decode cX11_ambiguous 21 = .ok (.aload_n 0, 1) := by decide +kernel
theorem dX11_ambiguous_22 : decode cX11_ambiguous 22 = .ok (.getfield 33, 3) := by decide +kernel
theorem dX11_ambiguous_25 : decode cX11_ambiguous 25 = .ok (.invokevirtual 233, 3) := by decide +kernel
theorem dX11_ambiguous_28 : decode cX11_ambiguous 28 = .ok (.ireturn, 1) := by decide +kernel
theorem dX11_told_0 : decode cX11_told 0 = .ok (.iload_n 1, 1) := by decide +kernel
theorem dX11_told_1 : decode cX11_told 1 = .ok (.tableswitch 87 0 5 #[39, 47, 55, 63, 71, 79], 39) := by decide +kernel
theorem dX11_told_40 : decode cX11_told 40 = .ok (.aload_n 0, 1) := by decide +kernel
theorem dX11_told_41 : decode cX11_told 41 = .ok (.getfield 68, 3) := by decide +kernel
theorem dX11_told_44 : decode cX11_told 44 = .ok (.invokevirtual 110, 3) := by decide +kernel
theorem dX11_told_47 : decode cX11_told 47 = .ok (.ireturn, 1) := by decide +kernel
theorem dX11_told_48 : decode cX11_told 48 = .ok (.aload_n 0, 1) := by decide +kernel
theorem dX11_told_49 : decode cX11_told 49 = .ok (.getfield 68, 3) := by decide +kernel
theorem dX11_told_52 : decode cX11_told 52 = .ok (.invokevirtual 237, 3) := by decide +kernel
theorem dX11_told_55 : decode cX11_told 55 = .ok (.ireturn, 1) := by decide +kernel
theorem dX11_told_56 : decode cX11_told 56 = .ok (.aload_n 0, 1) := by decide +kernel
theorem dX11_told_57 : decode cX11_told 57 = .ok (.getfield 68, 3) := by decide +kernel
theorem dX11_told_60 : decode cX11_told 60 = .ok (.invokevirtual 127, 3) := by decide +kernel
theorem dX11_told_63 : decode cX11_told 63 = .ok (.ireturn, 1) := by decide +kernel
theorem dX11_told_64 : decode cX11_told 64 = .ok (.aload_n 0, 1) := by decide +kernel
theorem dX11_told_65 : decode cX11_told 65 = .ok (.getfield 10, 3) := by decide +kernel
theorem dX11_told_68 : decode cX11_told 68 = .ok (.invokevirtual 79, 3) := by decide +kernel
theorem dX11_told_71 : decode cX11_told 71 = .ok (.ireturn, 1) := by decide +kernel
theorem dX11_told_72 : decode cX11_told 72 = .ok (.aload_n 0, 1) := by decide +kernel
theorem dX11_told_73 : decode cX11_told 73 = .ok (.getfield 26, 3) := by decide +kernel
theorem dX11_told_76 : decode cX11_told 76 = .ok (.invokevirtual 240, 3) := by decide +kernel
theorem dX11_told_79 : decode cX11_told 79 = .ok (.ireturn, 1) := by decide +kernel
theorem dX11_told_80 : decode cX11_told 80 = .ok (.aload_n 0, 1) := by decide +kernel
theorem dX11_told_81 : decode cX11_told 81 = .ok (.getfield 47, 3) := by decide +kernel
theorem dX11_told_84 : decode cX11_told 84 = .ok (.invokevirtual 216, 3) := by decide +kernel
theorem dX11_told_87 : decode cX11_told 87 = .ok (.ireturn, 1) := by decide +kernel
theorem dX11_told_88 : decode cX11_told 88 = .ok (.iconst (-1), 1) := by decide +kernel
theorem dX11_told_89 : decode cX11_told 89 = .ok (.ireturn, 1) := by decide +kernel
theorem dX11_undo_0 : decode cX11_undo 0 = .ok (.aload_n 0, 1) := by decide +kernel
theorem dX11_undo_1 : decode cX11_undo 1 = .ok (.getfield 26, 3) := by decide +kernel
theorem dX11_undo_4 : decode cX11_undo 4 = .ok (.invokevirtual 240, 3) := by decide +kernel
theorem dX11_undo_7 : decode cX11_undo 7 = .ok (.ifCond .ne 6, 3) := by decide +kernel
theorem dX11_undo_10 : decode cX11_undo 10 = .ok (.bipush (-2), 2) := by decide +kernel
theorem dX11_undo_12 : decode cX11_undo 12 = .ok (.ireturn, 1) := by decide +kernel
theorem dX11_undo_13 : decode cX11_undo 13 = .ok (.aload_n 0, 1) := by decide +kernel
theorem dX11_undo_14 : decode cX11_undo 14 = .ok (.aload_n 0, 1) := by decide +kernel
theorem dX11_undo_15 : decode cX11_undo 15 = .ok (.getfield 26, 3) := by decide +kernel
theorem dX11_undo_18 : decode cX11_undo 18 = .ok (.aload_n 0, 1) := by decide +kernel
theorem dX11_undo_19 : decode cX11_undo 19 = .ok (.getfield 68, 3) := by decide +kernel
theorem dX11_undo_22 : decode cX11_undo 22 = .ok (.invokevirtual 241, 3) := by decide +kernel
theorem dX11_undo_25 : decode cX11_undo 25 = .ok (.putfield 68, 3) := by decide +kernel
theorem dX11_undo_28 : decode cX11_undo 28 = .ok (.aload_n 0, 1) := by decide +kernel
theorem dX11_undo_29 : decode cX11_undo 29 = .ok (.invokevirtual 76, 3) := by decide +kernel
theorem dX11_undo_32 : decode cX11_undo 32 = .ok (.aload_n 0, 1) := by decide +kernel
theorem dX11_undo_33 : decode cX11_undo 33 = .ok (.getfield 26, 3) := by decide +kernel
theorem dX11_undo_36 : decode cX11_undo 36 = .ok (.invokevirtual 240, 3) := by decide +kernel
theorem dX11_undo_39 : decode cX11_undo 39 = .ok (.ireturn, 1) := by decide +kernel
theorem dX11_digest_0 : decode cX11_digest 0 = .ok (.ldc2_w 244, 3) := by decide +kernel
theorem dX11_digest_3 : decode cX11_digest 3 = .ok (.lstore_n 1, 1) := by decide +kernel
theorem dX11_digest_4 : decode cX11_digest 4 = .ok (.iconst 0, 1) := by decide +kernel
theorem dX11_digest_5 : decode cX11_digest 5 = .ok (.istore_n 3, 1) := by decide +kernel
theorem dX11_digest_6 : decode cX11_digest 6 = .ok (.iload_n 3, 1) := by decide +kernel
theorem dX11_digest_7 : decode cX11_digest 7 = .ok (.iconst 5, 1) := by decide +kernel
theorem dX11_digest_8 : decode cX11_digest 8 = .ok (.if_icmp .gt 22, 3) := by decide +kernel
theorem dX11_digest_11 : decode cX11_digest 11 = .ok (.ldc2_w 246, 3) := by decide +kernel
theorem dX11_digest_14 : decode cX11_digest 14 = .ok (.lload_n 1, 1) := by decide +kernel
theorem dX11_digest_15 : decode cX11_digest 15 = .ok (.lmul, 1) := by decide +kernel
theorem dX11_digest_16 : decode cX11_digest 16 = .ok (.aload_n 0, 1) := by decide +kernel
theorem dX11_digest_17 : decode cX11_digest 17 = .ok (.iload_n 3, 1) := by decide +kernel
theorem dX11_digest_18 : decode cX11_digest 18 = .ok (.invokevirtual 248, 3) := by decide +kernel
theorem dX11_digest_21 : decode cX11_digest 21 = .ok (.i2l, 1) := by decide +kernel
theorem dX11_digest_22 : decode cX11_digest 22 = .ok (.ladd, 1) := by decide +kernel
theorem dX11_digest_23 : decode cX11_digest 23 = .ok (.lstore_n 1, 1) := by decide +kernel
theorem dX11_digest_24 : decode cX11_digest 24 = .ok (.iinc 3 1, 3) := by decide +kernel
theorem dX11_digest_27 : decode cX11_digest 27 = .ok (.goto (-21), 3) := by decide +kernel
theorem dX11_digest_30 : decode cX11_digest 30 = .ok (.iconst 0, 1) := by decide +kernel
theorem dX11_digest_31 : decode cX11_digest 31 = .ok (.istore_n 3, 1) := by decide +kernel
theorem dX11_digest_32 : decode cX11_digest 32 = .ok (.iload_n 3, 1) := by decide +kernel
theorem dX11_digest_33 : decode cX11_digest 33 = .ok (.aload_n 0, 1) := by decide +kernel
theorem dX11_digest_34 : decode cX11_digest 34 = .ok (.getfield 68, 3) := by decide +kernel
theorem dX11_digest_37 : decode cX11_digest 37 = .ok (.invokevirtual 110, 3) := by decide +kernel
theorem dX11_digest_40 : decode cX11_digest 40 = .ok (.if_icmp .ge 16, 3) := by decide +kernel
theorem dX11_digest_43 : decode cX11_digest 43 = .ok (.aload_n 0, 1) := by decide +kernel
theorem dX11_digest_44 : decode cX11_digest 44 = .ok (.lload_n 1, 1) := by decide +kernel
theorem dX11_digest_45 : decode cX11_digest 45 = .ok (.iload_n 3, 1) := by decide +kernel
theorem dX11_digest_46 : decode cX11_digest 46 = .ok (.invokevirtual 251, 3) := by decide +kernel
theorem dX11_digest_49 : decode cX11_digest 49 = .ok (.lstore_n 1, 1) := by decide +kernel
theorem dX11_digest_50 : decode cX11_digest 50 = .ok (.iinc 3 1, 3) := by decide +kernel
theorem dX11_digest_53 : decode cX11_digest 53 = .ok (.goto (-21), 3) := by decide +kernel
theorem dX11_digest_56 : decode cX11_digest 56 = .ok (.iconst 0, 1) := by decide +kernel
theorem dX11_digest_57 : decode cX11_digest 57 = .ok (.istore_n 3, 1) := by decide +kernel
theorem dX11_digest_58 : decode cX11_digest 58 = .ok (.iload_n 3, 1) := by decide +kernel
theorem dX11_digest_59 : decode cX11_digest 59 = .ok (.bipush 6, 2) := by decide +kernel
theorem dX11_digest_61 : decode cX11_digest 61 = .ok (.if_icmp .ge 24, 3) := by decide +kernel
theorem dX11_digest_64 : decode cX11_digest 64 = .ok (.aload_n 0, 1) := by decide +kernel
theorem dX11_digest_65 : decode cX11_digest 65 = .ok (.iload_n 3, 1) := by decide +kernel
theorem dX11_digest_66 : decode cX11_digest 66 = .ok (.invokevirtual 152, 3) := by decide +kernel
theorem dX11_digest_69 : decode cX11_digest 69 = .ok (.ifCond .eq 10, 3) := by decide +kernel
theorem dX11_digest_72 : decode cX11_digest 72 = .ok (.aload_n 0, 1) := by decide +kernel
theorem dX11_digest_73 : decode cX11_digest 73 = .ok (.lload_n 1, 1) := by decide +kernel
theorem dX11_digest_74 : decode cX11_digest 74 = .ok (.iload_n 3, 1) := by decide +kernel
theorem dX11_digest_75 : decode cX11_digest 75 = .ok (.invokevirtual 255, 3) := by decide +kernel
theorem dX11_digest_78 : decode cX11_digest 78 = .ok (.lstore_n 1, 1) := by decide +kernel
theorem dX11_digest_79 : decode cX11_digest 79 = .ok (.iinc 3 1, 3) := by decide +kernel
theorem dX11_digest_82 : decode cX11_digest 82 = .ok (.goto (-24), 3) := by decide +kernel
theorem dX11_digest_85 : decode cX11_digest 85 = .ok (.ldc2_w 246, 3) := by decide +kernel
theorem dX11_digest_88 : decode cX11_digest 88 = .ok (.lload_n 1, 1) := by decide +kernel
theorem dX11_digest_89 : decode cX11_digest 89 = .ok (.lmul, 1) := by decide +kernel
theorem dX11_digest_90 : decode cX11_digest 90 = .ok (.aload_n 0, 1) := by decide +kernel
theorem dX11_digest_91 : decode cX11_digest 91 = .ok (.iconst 0, 1) := by decide +kernel
theorem dX11_digest_92 : decode cX11_digest 92 = .ok (.invokevirtual 201, 3) := by decide +kernel
theorem dX11_digest_95 : decode cX11_digest 95 = .ok (.i2l, 1) := by decide +kernel
theorem dX11_digest_96 : decode cX11_digest 96 = .ok (.ladd, 1) := by decide +kernel
theorem dX11_digest_97 : decode cX11_digest 97 = .ok (.lstore_n 1, 1) := by decide +kernel
theorem dX11_digest_98 : decode cX11_digest 98 = .ok (.ldc2_w 246, 3) := by decide +kernel
theorem dX11_digest_101 : decode cX11_digest 101 = .ok (.lload_n 1, 1) := by decide +kernel
theorem dX11_digest_102 : decode cX11_digest 102 = .ok (.lmul, 1) := by decide +kernel
theorem dX11_digest_103 : decode cX11_digest 103 = .ok (.aload_n 0, 1) := by decide +kernel
theorem dX11_digest_104 : decode cX11_digest 104 = .ok (.iconst 1, 1) := by decide +kernel
theorem dX11_digest_105 : decode cX11_digest 105 = .ok (.invokevirtual 201, 3) := by decide +kernel
theorem dX11_digest_108 : decode cX11_digest 108 = .ok (.i2l, 1) := by decide +kernel
theorem dX11_digest_109 : decode cX11_digest 109 = .ok (.ladd, 1) := by decide +kernel
theorem dX11_digest_110 : decode cX11_digest 110 = .ok (.lstore_n 1, 1) := by decide +kernel
theorem dX11_digest_111 : decode cX11_digest 111 = .ok (.iconst 0, 1) := by decide +kernel
theorem dX11_digest_112 : decode cX11_digest 112 = .ok (.istore_n 3, 1) := by decide +kernel
theorem dX11_digest_113 : decode cX11_digest 113 = .ok (.iload_n 3, 1) := by decide +kernel
theorem dX11_digest_114 : decode cX11_digest 114 = .ok (.aload_n 0, 1) := by decide +kernel
theorem dX11_digest_115 : decode cX11_digest 115 = .ok (.getfield 47, 3) := by decide +kernel
theorem dX11_digest_118 : decode cX11_digest 118 = .ok (.invokevirtual 216, 3) := by decide +kernel
theorem dX11_digest_121 : decode cX11_digest 121 = .ok (.if_icmp .ge 25, 3) := by decide +kernel
theorem dX11_digest_124 : decode cX11_digest 124 = .ok (.ldc2_w 246, 3) := by decide +kernel
theorem dX11_digest_127 : decode cX11_digest 127 = .ok (.lload_n 1, 1) := by decide +kernel
theorem dX11_digest_128 : decode cX11_digest 128 = .ok (.lmul, 1) := by decide +kernel
theorem dX11_digest_129 : decode cX11_digest 129 = .ok (.aload_n 0, 1) := by decide +kernel
theorem dX11_digest_130 : decode cX11_digest 130 = .ok (.getfield 47, 3) := by decide +kernel
theorem dX11_digest_133 : decode cX11_digest 133 = .ok (.iload_n 3, 1) := by decide +kernel
theorem dX11_digest_134 : decode cX11_digest 134 = .ok (.invokevirtual 217, 3) := by decide +kernel
theorem dX11_digest_137 : decode cX11_digest 137 = .ok (.i2l, 1) := by decide +kernel
theorem dX11_digest_138 : decode cX11_digest 138 = .ok (.ladd, 1) := by decide +kernel
theorem dX11_digest_139 : decode cX11_digest 139 = .ok (.lstore_n 1, 1) := by decide +kernel
theorem dX11_digest_140 : decode cX11_digest 140 = .ok (.iinc 3 1, 3) := by decide +kernel
theorem dX11_digest_143 : decode cX11_digest 143 = .ok (.goto (-30), 3) := by decide +kernel
theorem dX11_digest_146 : decode cX11_digest 146 = .ok (.ldc2_w 246, 3) := by decide +kernel
theorem dX11_digest_149 : decode cX11_digest 149 = .ok (.lload_n 1, 1) := by decide +kernel
theorem dX11_digest_150 : decode cX11_digest 150 = .ok (.lmul, 1) := by decide +kernel
theorem dX11_digest_151 : decode cX11_digest 151 = .ok (.aload_n 0, 1) := by decide +kernel
theorem dX11_digest_152 : decode cX11_digest 152 = .ok (.invokevirtual 258, 3) := by decide +kernel
theorem dX11_digest_155 : decode cX11_digest 155 = .ok (.i2l, 1) := by decide +kernel
theorem dX11_digest_156 : decode cX11_digest 156 = .ok (.ladd, 1) := by decide +kernel
theorem dX11_digest_157 : decode cX11_digest 157 = .ok (.lreturn, 1) := by decide +kernel
theorem dX11_mixProduction_0 : decode cX11_mixProduction 0 = .ok (.ldc2_w 246, 3) := by decide +kernel
theorem dX11_mixProduction_3 : decode cX11_mixProduction 3 = .ok (.lload_n 1, 1) := by decide +kernel
theorem dX11_mixProduction_4 : decode cX11_mixProduction 4 = .ok (.lmul, 1) := by decide +kernel
theorem dX11_mixProduction_5 : decode cX11_mixProduction 5 = .ok (.aload_n 0, 1) := by decide +kernel
theorem dX11_mixProduction_6 : decode cX11_mixProduction 6 = .ok (.getfield 68, 3) := by decide +kernel
theorem dX11_mixProduction_9 : decode cX11_mixProduction 9 = .ok (.iload_n 3, 1) := by decide +kernel
theorem dX11_mixProduction_10 : decode cX11_mixProduction 10 = .ok (.invokevirtual 116, 3) := by decide +kernel
theorem dX11_mixProduction_13 : decode cX11_mixProduction 13 = .ok (.i2l, 1) := by decide +kernel
theorem dX11_mixProduction_14 : decode cX11_mixProduction 14 = .ok (.ladd, 1) := by decide +kernel
theorem dX11_mixProduction_15 : decode cX11_mixProduction 15 = .ok (.lstore 4, 2) := by decide +kernel
theorem dX11_mixProduction_17 : decode cX11_mixProduction 17 = .ok (.ldc2_w 246, 3) := by decide +kernel
theorem dX11_mixProduction_20 : decode cX11_mixProduction 20 = .ok (.lload 4, 2) := by decide +kernel
theorem dX11_mixProduction_22 : decode cX11_mixProduction 22 = .ok (.lmul, 1) := by decide +kernel
theorem dX11_mixProduction_23 : decode cX11_mixProduction 23 = .ok (.aload_n 0, 1) := by decide +kernel
theorem dX11_mixProduction_24 : decode cX11_mixProduction 24 = .ok (.getfield 68, 3) := by decide +kernel
theorem dX11_mixProduction_27 : decode cX11_mixProduction 27 = .ok (.iload_n 3, 1) := by decide +kernel
theorem dX11_mixProduction_28 : decode cX11_mixProduction 28 = .ok (.invokevirtual 120, 3) := by decide +kernel
theorem dX11_mixProduction_31 : decode cX11_mixProduction 31 = .ok (.i2l, 1) := by decide +kernel
theorem dX11_mixProduction_32 : decode cX11_mixProduction 32 = .ok (.ladd, 1) := by decide +kernel
theorem dX11_mixProduction_33 : decode cX11_mixProduction 33 = .ok (.lstore 4, 2) := by decide +kernel
theorem dX11_mixProduction_35 : decode cX11_mixProduction 35 = .ok (.iconst 0, 1) := by decide +kernel
theorem dX11_mixProduction_36 : decode cX11_mixProduction 36 = .ok (.istore 6, 2) := by decide +kernel
theorem dX11_mixProduction_38 : decode cX11_mixProduction 38 = .ok (.iload 6, 2) := by decide +kernel
theorem dX11_mixProduction_40 : decode cX11_mixProduction 40 = .ok (.aload_n 0, 1) := by decide +kernel
theorem dX11_mixProduction_41 : decode cX11_mixProduction 41 = .ok (.getfield 68, 3) := by decide +kernel
theorem dX11_mixProduction_44 : decode cX11_mixProduction 44 = .ok (.iload_n 3, 1) := by decide +kernel
theorem dX11_mixProduction_45 : decode cX11_mixProduction 45 = .ok (.invokevirtual 120, 3) := by decide +kernel
theorem dX11_mixProduction_48 : decode cX11_mixProduction 48 = .ok (.if_icmp .ge 29, 3) := by decide +kernel
theorem dX11_mixProduction_51 : decode cX11_mixProduction 51 = .ok (.ldc2_w 246, 3) := by decide +kernel
theorem dX11_mixProduction_54 : decode cX11_mixProduction 54 = .ok (.lload 4, 2) := by decide +kernel
theorem dX11_mixProduction_56 : decode cX11_mixProduction 56 = .ok (.lmul, 1) := by decide +kernel
theorem dX11_mixProduction_57 : decode cX11_mixProduction 57 = .ok (.aload_n 0, 1) := by decide +kernel
theorem dX11_mixProduction_58 : decode cX11_mixProduction 58 = .ok (.getfield 68, 3) := by decide +kernel
theorem dX11_mixProduction_61 : decode cX11_mixProduction 61 = .ok (.iload_n 3, 1) := by decide +kernel
theorem dX11_mixProduction_62 : decode cX11_mixProduction 62 = .ok (.iload 6, 2) := by decide +kernel
theorem dX11_mixProduction_64 : decode cX11_mixProduction 64 = .ok (.invokevirtual 123, 3) := by decide +kernel
theorem dX11_mixProduction_67 : decode cX11_mixProduction 67 = .ok (.i2l, 1) := by decide +kernel
theorem dX11_mixProduction_68 : decode cX11_mixProduction 68 = .ok (.ladd, 1) := by decide +kernel
theorem dX11_mixProduction_69 : decode cX11_mixProduction 69 = .ok (.lstore 4, 2) := by decide +kernel
theorem dX11_mixProduction_71 : decode cX11_mixProduction 71 = .ok (.iinc 6 1, 3) := by decide +kernel
theorem dX11_mixProduction_74 : decode cX11_mixProduction 74 = .ok (.goto (-36), 3) := by decide +kernel
theorem dX11_mixProduction_77 : decode cX11_mixProduction 77 = .ok (.iconst 0, 1) := by decide +kernel
theorem dX11_mixProduction_78 : decode cX11_mixProduction 78 = .ok (.istore 6, 2) := by decide +kernel
theorem dX11_mixProduction_80 : decode cX11_mixProduction 80 = .ok (.iload 6, 2) := by decide +kernel
theorem dX11_mixProduction_82 : decode cX11_mixProduction 82 = .ok (.iconst 3, 1) := by decide +kernel
theorem dX11_mixProduction_83 : decode cX11_mixProduction 83 = .ok (.if_icmp .gt 27, 3) := by decide +kernel
theorem dX11_mixProduction_86 : decode cX11_mixProduction 86 = .ok (.ldc2_w 246, 3) := by decide +kernel
theorem dX11_mixProduction_89 : decode cX11_mixProduction 89 = .ok (.lload 4, 2) := by decide +kernel
theorem dX11_mixProduction_91 : decode cX11_mixProduction 91 = .ok (.lmul, 1) := by decide +kernel
theorem dX11_mixProduction_92 : decode cX11_mixProduction 92 = .ok (.aload_n 0, 1) := by decide +kernel
theorem dX11_mixProduction_93 : decode cX11_mixProduction 93 = .ok (.iconst 2, 1) := by decide +kernel
theorem dX11_mixProduction_94 : decode cX11_mixProduction 94 = .ok (.iload_n 3, 1) := by decide +kernel
theorem dX11_mixProduction_95 : decode cX11_mixProduction 95 = .ok (.iload 6, 2) := by decide +kernel
theorem dX11_mixProduction_97 : decode cX11_mixProduction 97 = .ok (.invokevirtual 261, 3) := by decide +kernel
theorem dX11_mixProduction_100 : decode cX11_mixProduction 100 = .ok (.i2l, 1) := by decide +kernel
theorem dX11_mixProduction_101 : decode cX11_mixProduction 101 = .ok (.ladd, 1) := by decide +kernel
theorem dX11_mixProduction_102 : decode cX11_mixProduction 102 = .ok (.lstore 4, 2) := by decide +kernel
theorem dX11_mixProduction_104 : decode cX11_mixProduction 104 = .ok (.iinc 6 1, 3) := by decide +kernel
theorem dX11_mixProduction_107 : decode cX11_mixProduction 107 = .ok (.goto (-27), 3) := by decide +kernel
theorem dX11_mixProduction_110 : decode cX11_mixProduction 110 = .ok (.iconst 0, 1) := by decide +kernel
theorem dX11_mixProduction_111 : decode cX11_mixProduction 111 = .ok (.istore 6, 2) := by decide +kernel
theorem dX11_mixProduction_113 : decode cX11_mixProduction 113 = .ok (.iload 6, 2) := by decide +kernel
theorem dX11_mixProduction_115 : decode cX11_mixProduction 115 = .ok (.iconst 3, 1) := by decide +kernel
theorem dX11_mixProduction_116 : decode cX11_mixProduction 116 = .ok (.if_icmp .ge 26, 3) := by decide +kernel
theorem dX11_mixProduction_119 : decode cX11_mixProduction 119 = .ok (.ldc2_w 246, 3) := by decide +kernel
theorem dX11_mixProduction_122 : decode cX11_mixProduction 122 = .ok (.lload 4, 2) := by decide +kernel
theorem dX11_mixProduction_124 : decode cX11_mixProduction 124 = .ok (.lmul, 1) := by decide +kernel
theorem dX11_mixProduction_125 : decode cX11_mixProduction 125 = .ok (.aload_n 0, 1) := by decide +kernel
theorem dX11_mixProduction_126 : decode cX11_mixProduction 126 = .ok (.iload_n 3, 1) := by decide +kernel
theorem dX11_mixProduction_127 : decode cX11_mixProduction 127 = .ok (.iload 6, 2) := by decide +kernel
theorem dX11_mixProduction_129 : decode cX11_mixProduction 129 = .ok (.invokevirtual 265, 3) := by decide +kernel
theorem dX11_mixProduction_132 : decode cX11_mixProduction 132 = .ok (.i2l, 1) := by decide +kernel
theorem dX11_mixProduction_133 : decode cX11_mixProduction 133 = .ok (.ladd, 1) := by decide +kernel
theorem dX11_mixProduction_134 : decode cX11_mixProduction 134 = .ok (.lstore 4, 2) := by decide +kernel
theorem dX11_mixProduction_136 : decode cX11_mixProduction 136 = .ok (.iinc 6 1, 3) := by decide +kernel
theorem dX11_mixProduction_139 : decode cX11_mixProduction 139 = .ok (.goto (-26), 3) := by decide +kernel
theorem dX11_mixProduction_142 : decode cX11_mixProduction 142 = .ok (.lload 4, 2) := by decide +kernel
theorem dX11_mixProduction_144 : decode cX11_mixProduction 144 = .ok (.lreturn, 1) := by decide +kernel
theorem dX11_mixNonterminal_0 : decode cX11_mixNonterminal 0 = .ok (.ldc2_w 246, 3) := by decide +kernel
theorem dX11_mixNonterminal_3 : decode cX11_mixNonterminal 3 = .ok (.lload_n 1, 1) := by decide +kernel
theorem dX11_mixNonterminal_4 : decode cX11_mixNonterminal 4 = .ok (.lmul, 1) := by decide +kernel
theorem dX11_mixNonterminal_5 : decode cX11_mixNonterminal 5 = .ok (.iload_n 3, 1) := by decide +kernel
theorem dX11_mixNonterminal_6 : decode cX11_mixNonterminal 6 = .ok (.i2l, 1) := by decide +kernel
theorem dX11_mixNonterminal_7 : decode cX11_mixNonterminal 7 = .ok (.ladd, 1) := by decide +kernel
theorem dX11_mixNonterminal_8 : decode cX11_mixNonterminal 8 = .ok (.lstore 4, 2) := by decide +kernel
theorem dX11_mixNonterminal_10 : decode cX11_mixNonterminal 10 = .ok (.iconst 1, 1) := by decide +kernel
theorem dX11_mixNonterminal_11 : decode cX11_mixNonterminal 11 = .ok (.istore 6, 2) := by decide +kernel
theorem dX11_mixNonterminal_13 : decode cX11_mixNonterminal 13 = .ok (.iload 6, 2) := by decide +kernel
theorem dX11_mixNonterminal_15 : decode cX11_mixNonterminal 15 = .ok (.bipush 7, 2) := by decide +kernel
theorem dX11_mixNonterminal_17 : decode cX11_mixNonterminal 17 = .ok (.if_icmp .gt 26, 3) := by decide +kernel
theorem dX11_mixNonterminal_20 : decode cX11_mixNonterminal 20 = .ok (.ldc2_w 246, 3) := by decide +kernel
theorem dX11_mixNonterminal_23 : decode cX11_mixNonterminal 23 = .ok (.lload 4, 2) := by decide +kernel
theorem dX11_mixNonterminal_25 : decode cX11_mixNonterminal 25 = .ok (.lmul, 1) := by decide +kernel
theorem dX11_mixNonterminal_26 : decode cX11_mixNonterminal 26 = .ok (.aload_n 0, 1) := by decide +kernel
theorem dX11_mixNonterminal_27 : decode cX11_mixNonterminal 27 = .ok (.iload_n 3, 1) := by decide +kernel
theorem dX11_mixNonterminal_28 : decode cX11_mixNonterminal 28 = .ok (.iload 6, 2) := by decide +kernel
theorem dX11_mixNonterminal_30 : decode cX11_mixNonterminal 30 = .ok (.invokevirtual 268, 3) := by decide +kernel
theorem dX11_mixNonterminal_33 : decode cX11_mixNonterminal 33 = .ok (.i2l, 1) := by decide +kernel
theorem dX11_mixNonterminal_34 : decode cX11_mixNonterminal 34 = .ok (.ladd, 1) := by decide +kernel
theorem dX11_mixNonterminal_35 : decode cX11_mixNonterminal 35 = .ok (.lstore 4, 2) := by decide +kernel
theorem dX11_mixNonterminal_37 : decode cX11_mixNonterminal 37 = .ok (.iinc 6 1, 3) := by decide +kernel
theorem dX11_mixNonterminal_40 : decode cX11_mixNonterminal 40 = .ok (.goto (-27), 3) := by decide +kernel
theorem dX11_mixNonterminal_43 : decode cX11_mixNonterminal 43 = .ok (.ldc2_w 246, 3) := by decide +kernel
theorem dX11_mixNonterminal_46 : decode cX11_mixNonterminal 46 = .ok (.lload 4, 2) := by decide +kernel
theorem dX11_mixNonterminal_48 : decode cX11_mixNonterminal 48 = .ok (.lmul, 1) := by decide +kernel
theorem dX11_mixNonterminal_49 : decode cX11_mixNonterminal 49 = .ok (.aload_n 0, 1) := by decide +kernel
theorem dX11_mixNonterminal_50 : decode cX11_mixNonterminal 50 = .ok (.iconst 0, 1) := by decide +kernel
theorem dX11_mixNonterminal_51 : decode cX11_mixNonterminal 51 = .ok (.iload_n 3, 1) := by decide +kernel
theorem dX11_mixNonterminal_52 : decode cX11_mixNonterminal 52 = .ok (.iconst 3, 1) := by decide +kernel
theorem dX11_mixNonterminal_53 : decode cX11_mixNonterminal 53 = .ok (.invokevirtual 261, 3) := by decide +kernel
theorem dX11_mixNonterminal_56 : decode cX11_mixNonterminal 56 = .ok (.i2l, 1) := by decide +kernel
theorem dX11_mixNonterminal_57 : decode cX11_mixNonterminal 57 = .ok (.ladd, 1) := by decide +kernel
theorem dX11_mixNonterminal_58 : decode cX11_mixNonterminal 58 = .ok (.lstore 4, 2) := by decide +kernel
theorem dX11_mixNonterminal_60 : decode cX11_mixNonterminal 60 = .ok (.ldc2_w 246, 3) := by decide +kernel
theorem dX11_mixNonterminal_63 : decode cX11_mixNonterminal 63 = .ok (.lload 4, 2) := by decide +kernel
theorem dX11_mixNonterminal_65 : decode cX11_mixNonterminal 65 = .ok (.lmul, 1) := by decide +kernel
theorem dX11_mixNonterminal_66 : decode cX11_mixNonterminal 66 = .ok (.aload_n 0, 1) := by decide +kernel
theorem dX11_mixNonterminal_67 : decode cX11_mixNonterminal 67 = .ok (.iconst 1, 1) := by decide +kernel
theorem dX11_mixNonterminal_68 : decode cX11_mixNonterminal 68 = .ok (.iload_n 3, 1) := by decide +kernel
theorem dX11_mixNonterminal_69 : decode cX11_mixNonterminal 69 = .ok (.iconst 3, 1) := by decide +kernel
theorem dX11_mixNonterminal_70 : decode cX11_mixNonterminal 70 = .ok (.invokevirtual 261, 3) := by decide +kernel
theorem dX11_mixNonterminal_73 : decode cX11_mixNonterminal 73 = .ok (.i2l, 1) := by decide +kernel
theorem dX11_mixNonterminal_74 : decode cX11_mixNonterminal 74 = .ok (.ladd, 1) := by decide +kernel
theorem dX11_mixNonterminal_75 : decode cX11_mixNonterminal 75 = .ok (.lstore 4, 2) := by decide +kernel
theorem dX11_mixNonterminal_77 : decode cX11_mixNonterminal 77 = .ok (.ldc2_w 246, 3) := by decide +kernel
theorem dX11_mixNonterminal_80 : decode cX11_mixNonterminal 80 = .ok (.lload 4, 2) := by decide +kernel
theorem dX11_mixNonterminal_82 : decode cX11_mixNonterminal 82 = .ok (.lmul, 1) := by decide +kernel
theorem dX11_mixNonterminal_83 : decode cX11_mixNonterminal 83 = .ok (.aload_n 0, 1) := by decide +kernel
theorem dX11_mixNonterminal_84 : decode cX11_mixNonterminal 84 = .ok (.iload_n 3, 1) := by decide +kernel
theorem dX11_mixNonterminal_85 : decode cX11_mixNonterminal 85 = .ok (.invokevirtual 271, 3) := by decide +kernel
theorem dX11_mixNonterminal_88 : decode cX11_mixNonterminal 88 = .ok (.i2l, 1) := by decide +kernel
theorem dX11_mixNonterminal_89 : decode cX11_mixNonterminal 89 = .ok (.ladd, 1) := by decide +kernel
theorem dX11_mixNonterminal_90 : decode cX11_mixNonterminal 90 = .ok (.lstore 4, 2) := by decide +kernel
theorem dX11_mixNonterminal_92 : decode cX11_mixNonterminal 92 = .ok (.ldc2_w 246, 3) := by decide +kernel
theorem dX11_mixNonterminal_95 : decode cX11_mixNonterminal 95 = .ok (.lload 4, 2) := by decide +kernel
theorem dX11_mixNonterminal_97 : decode cX11_mixNonterminal 97 = .ok (.lmul, 1) := by decide +kernel
theorem dX11_mixNonterminal_98 : decode cX11_mixNonterminal 98 = .ok (.aload_n 0, 1) := by decide +kernel
theorem dX11_mixNonterminal_99 : decode cX11_mixNonterminal 99 = .ok (.iload_n 3, 1) := by decide +kernel
theorem dX11_mixNonterminal_100 : decode cX11_mixNonterminal 100 = .ok (.invokevirtual 274, 3) := by decide +kernel
theorem dX11_mixNonterminal_103 : decode cX11_mixNonterminal 103 = .ok (.i2l, 1) := by decide +kernel
theorem dX11_mixNonterminal_104 : decode cX11_mixNonterminal 104 = .ok (.ladd, 1) := by decide +kernel
theorem dX11_mixNonterminal_105 : decode cX11_mixNonterminal 105 = .ok (.lstore 4, 2) := by decide +kernel
theorem dX11_mixNonterminal_107 : decode cX11_mixNonterminal 107 = .ok (.ldc2_w 246, 3) := by decide +kernel
theorem dX11_mixNonterminal_110 : decode cX11_mixNonterminal 110 = .ok (.lload 4, 2) := by decide +kernel
theorem dX11_mixNonterminal_112 : decode cX11_mixNonterminal 112 = .ok (.lmul, 1) := by decide +kernel
theorem dX11_mixNonterminal_113 : decode cX11_mixNonterminal 113 = .ok (.aload_n 0, 1) := by decide +kernel
theorem dX11_mixNonterminal_114 : decode cX11_mixNonterminal 114 = .ok (.iload_n 3, 1) := by decide +kernel
theorem dX11_mixNonterminal_115 : decode cX11_mixNonterminal 115 = .ok (.iconst 3, 1) := by decide +kernel
theorem dX11_mixNonterminal_116 : decode cX11_mixNonterminal 116 = .ok (.invokevirtual 277, 3) := by decide +kernel
theorem dX11_mixNonterminal_119 : decode cX11_mixNonterminal 119 = .ok (.i2l, 1) := by decide +kernel
theorem dX11_mixNonterminal_120 : decode cX11_mixNonterminal 120 = .ok (.ladd, 1) := by decide +kernel
theorem dX11_mixNonterminal_121 : decode cX11_mixNonterminal 121 = .ok (.lreturn, 1) := by decide +kernel
theorem dX11_study_0 : decode cX11_study 0 = .ok (.aload_n 0, 1) := by decide +kernel
theorem dX11_study_1 : decode cX11_study 1 = .ok (.getfield 33, 3) := by decide +kernel
theorem dX11_study_4 : decode cX11_study 4 = .ok (.aload_n 0, 1) := by decide +kernel
theorem dX11_study_5 : decode cX11_study 5 = .ok (.getfield 68, 3) := by decide +kernel
theorem dX11_study_8 : decode cX11_study 8 = .ok (.invokevirtual 280, 3) := by decide +kernel
theorem dX11_study_11 : decode cX11_study 11 = .ok (.aload_n 0, 1) := by decide +kernel
theorem dX11_study_12 : decode cX11_study 12 = .ok (.getfield 40, 3) := by decide +kernel
theorem dX11_study_15 : decode cX11_study 15 = .ok (.aload_n 0, 1) := by decide +kernel
theorem dX11_study_16 : decode cX11_study 16 = .ok (.getfield 68, 3) := by decide +kernel
theorem dX11_study_19 : decode cX11_study 19 = .ok (.invokevirtual 284, 3) := by decide +kernel
theorem dX11_study_22 : decode cX11_study 22 = .ok (.aload_n 0, 1) := by decide +kernel
theorem dX11_study_23 : decode cX11_study 23 = .ok (.getfield 54, 3) := by decide +kernel
theorem dX11_study_26 : decode cX11_study 26 = .ok (.invokevirtual 87, 3) := by decide +kernel
theorem dX11_study_29 : decode cX11_study 29 = .ok (.aload_n 0, 1) := by decide +kernel
theorem dX11_study_30 : decode cX11_study 30 = .ok (.getfield 61, 3) := by decide +kernel
theorem dX11_study_33 : decode cX11_study 33 = .ok (.invokevirtual 285, 3) := by decide +kernel
theorem dX11_study_36 : decode cX11_study 36 = .ok (.return_, 1) := by decide +kernel
theorem dX11_isDefined_0 : decode cX11_isDefined 0 = .ok (.iload_n 1, 1) := by decide +kernel
theorem dX11_isDefined_1 : decode cX11_isDefined 1 = .ok (.ifCond .lt 28, 3) := by decide +kernel
theorem dX11_isDefined_4 : decode cX11_isDefined 4 = .ok (.iload_n 1, 1) := by decide +kernel
theorem dX11_isDefined_5 : decode cX11_isDefined 5 = .ok (.bipush 6, 2) := by decide +kernel
theorem dX11_isDefined_7 : decode cX11_isDefined 7 = .ok (.if_icmp .ge 22, 3) := by decide +kernel
theorem dX11_isDefined_10 : decode cX11_isDefined 10 = .ok (.aload_n 0, 1) := by decide +kernel
theorem dX11_isDefined_11 : decode cX11_isDefined 11 = .ok (.getfield 68, 3) := by decide +kernel
theorem dX11_isDefined_14 : decode cX11_isDefined 14 = .ok (.invokevirtual 127, 3) := by decide +kernel
theorem dX11_isDefined_17 : decode cX11_isDefined 17 = .ok (.iload_n 1, 1) := by decide +kernel
theorem dX11_isDefined_18 : decode cX11_isDefined 18 = .ok (.invokestatic 130, 3) := by decide +kernel
theorem dX11_isDefined_21 : decode cX11_isDefined 21 = .ok (.iconst 1, 1) := by decide +kernel
theorem dX11_isDefined_22 : decode cX11_isDefined 22 = .ok (.if_icmp .ne 7, 3) := by decide +kernel
theorem dX11_isDefined_25 : decode cX11_isDefined 25 = .ok (.iconst 1, 1) := by decide +kernel
theorem dX11_isDefined_26 : decode cX11_isDefined 26 = .ok (.goto 4, 3) := by decide +kernel
theorem dX11_isDefined_29 : decode cX11_isDefined 29 = .ok (.iconst 0, 1) := by decide +kernel
theorem dX11_isDefined_30 : decode cX11_isDefined 30 = .ok (.ireturn, 1) := by decide +kernel
theorem dX11_isLookahead_0 : decode cX11_isLookahead 0 = .ok (.iload_n 0, 1) := by decide +kernel
theorem dX11_isLookahead_1 : decode cX11_isLookahead 1 = .ok (.ifCond .lt 12, 3) := by decide +kernel
theorem dX11_isLookahead_4 : decode cX11_isLookahead 4 = .ok (.iload_n 0, 1) := by decide +kernel
theorem dX11_isLookahead_5 : decode cX11_isLookahead 5 = .ok (.iconst 3, 1) := by decide +kernel
theorem dX11_isLookahead_6 : decode cX11_isLookahead 6 = .ok (.if_icmp .gt 7, 3) := by decide +kernel
theorem dX11_isLookahead_9 : decode cX11_isLookahead 9 = .ok (.iconst 1, 1) := by decide +kernel
theorem dX11_isLookahead_10 : decode cX11_isLookahead 10 = .ok (.goto 4, 3) := by decide +kernel
theorem dX11_isLookahead_13 : decode cX11_isLookahead 13 = .ok (.iconst 0, 1) := by decide +kernel
theorem dX11_isLookahead_14 : decode cX11_isLookahead 14 = .ok (.ireturn, 1) := by decide +kernel
theorem dX11_isWord_0 : decode cX11_isWord 0 = .ok (.iload_n 1, 1) := by decide +kernel
theorem dX11_isWord_1 : decode cX11_isWord 1 = .ok (.invokestatic 173, 3) := by decide +kernel
theorem dX11_isWord_4 : decode cX11_isWord 4 = .ok (.ifCond .eq 16, 3) := by decide +kernel
theorem dX11_isWord_7 : decode cX11_isWord 7 = .ok (.iload_n 0, 1) := by decide +kernel
theorem dX11_isWord_8 : decode cX11_isWord 8 = .ok (.ifCond .lt 12, 3) := by decide +kernel
theorem dX11_isWord_11 : decode cX11_isWord 11 = .ok (.iload_n 0, 1) := by decide +kernel
theorem dX11_isWord_12 : decode cX11_isWord 12 = .ok (.getstatic 178, 3) := by decide +kernel
theorem dX11_isWord_15 : decode cX11_isWord 15 = .ok (.iload_n 1, 1) := by decide +kernel
theorem dX11_isWord_16 : decode cX11_isWord 16 = .ok (.iaload, 1) := by decide +kernel
theorem dX11_isWord_17 : decode cX11_isWord 17 = .ok (.if_icmp .lt 5, 3) := by decide +kernel
theorem dX11_isWord_20 : decode cX11_isWord 20 = .ok (.iconst 0, 1) := by decide +kernel
theorem dX11_isWord_21 : decode cX11_isWord 21 = .ok (.ireturn, 1) := by decide +kernel
theorem dX11_isWord_22 : decode cX11_isWord 22 = .ok (.iload_n 0, 1) := by decide +kernel
theorem dX11_isWord_23 : decode cX11_isWord 23 = .ok (.istore_n 2, 1) := by decide +kernel
theorem dX11_isWord_24 : decode cX11_isWord 24 = .ok (.iconst 0, 1) := by decide +kernel
theorem dX11_isWord_25 : decode cX11_isWord 25 = .ok (.istore_n 3, 1) := by decide +kernel
theorem dX11_isWord_26 : decode cX11_isWord 26 = .ok (.iload_n 3, 1) := by decide +kernel
theorem dX11_isWord_27 : decode cX11_isWord 27 = .ok (.iconst 3, 1) := by decide +kernel
theorem dX11_isWord_28 : decode cX11_isWord 28 = .ok (.if_icmp .ge 27, 3) := by decide +kernel
theorem dX11_isWord_31 : decode cX11_isWord 31 = .ok (.iload_n 2, 1) := by decide +kernel
theorem dX11_isWord_32 : decode cX11_isWord 32 = .ok (.ifCond .le 23, 3) := by decide +kernel
theorem dX11_isWord_35 : decode cX11_isWord 35 = .ok (.iload_n 2, 1) := by decide +kernel
theorem dX11_isWord_36 : decode cX11_isWord 36 = .ok (.bipush 6, 2) := by decide +kernel
theorem dX11_isWord_38 : decode cX11_isWord 38 = .ok (.irem, 1) := by decide +kernel
theorem dX11_isWord_39 : decode cX11_isWord 39 = .ok (.ifCond .ne 5, 3) := by decide +kernel
theorem dX11_isWord_42 : decode cX11_isWord 42 = .ok (.iconst 0, 1) := by decide +kernel
theorem dX11_isWord_43 : decode cX11_isWord 43 = .ok (.ireturn, 1) := by decide +kernel
theorem dX11_isWord_44 : decode cX11_isWord 44 = .ok (.iload_n 2, 1) := by decide +kernel
theorem dX11_isWord_45 : decode cX11_isWord 45 = .ok (.bipush 6, 2) := by decide +kernel
theorem dX11_isWord_47 : decode cX11_isWord 47 = .ok (.idiv, 1) := by decide +kernel
theorem dX11_isWord_48 : decode cX11_isWord 48 = .ok (.istore_n 2, 1) := by decide +kernel
theorem dX11_isWord_49 : decode cX11_isWord 49 = .ok (.iinc 3 1, 3) := by decide +kernel
theorem dX11_isWord_52 : decode cX11_isWord 52 = .ok (.goto (-26), 3) := by decide +kernel
theorem dX11_isWord_55 : decode cX11_isWord 55 = .ok (.iconst 1, 1) := by decide +kernel
theorem dX11_isWord_56 : decode cX11_isWord 56 = .ok (.ireturn, 1) := by decide +kernel
theorem dX11_isLetter_0 : decode cX11_isLetter 0 = .ok (.iload_n 0, 1) := by decide +kernel
theorem dX11_isLetter_1 : decode cX11_isLetter 1 = .ok (.bipush 10, 2) := by decide +kernel
theorem dX11_isLetter_3 : decode cX11_isLetter 3 = .ok (.if_icmp .ge 7, 3) := by decide +kernel
theorem dX11_isLetter_6 : decode cX11_isLetter 6 = .ok (.iconst 1, 1) := by decide +kernel
theorem dX11_isLetter_7 : decode cX11_isLetter 7 = .ok (.goto 4, 3) := by decide +kernel
theorem dX11_isLetter_10 : decode cX11_isLetter 10 = .ok (.iconst 0, 1) := by decide +kernel
theorem dX11_isLetter_11 : decode cX11_isLetter 11 = .ok (.ireturn, 1) := by decide +kernel
theorem dX11_bit_0 : decode cX11_bit 0 = .ok (.iload_n 0, 1) := by decide +kernel
theorem dX11_bit_1 : decode cX11_bit 1 = .ok (.iload_n 1, 1) := by decide +kernel
theorem dX11_bit_2 : decode cX11_bit 2 = .ok (.ishr, 1) := by decide +kernel
theorem dX11_bit_3 : decode cX11_bit 3 = .ok (.iconst 1, 1) := by decide +kernel
theorem dX11_bit_4 : decode cX11_bit 4 = .ok (.iand, 1) := by decide +kernel
theorem dX11_bit_5 : decode cX11_bit 5 = .ok (.ireturn, 1) := by decide +kernel
theorem dJ6_bitCount_0f7a4_0 : decode cJ6_bitCount_0f7a4 0 = .ok (.iload_n 0, 1) := by decide +kernel
theorem dJ6_bitCount_0f7a4_1 : decode cJ6_bitCount_0f7a4 1 = .ok (.iload_n 0, 1) := by decide +kernel
theorem dJ6_bitCount_0f7a4_2 : decode cJ6_bitCount_0f7a4 2 = .ok (.iconst 1, 1) := by decide +kernel
theorem dJ6_bitCount_0f7a4_3 : decode cJ6_bitCount_0f7a4 3 = .ok (.iushr, 1) := by decide +kernel
theorem dJ6_bitCount_0f7a4_4 : decode cJ6_bitCount_0f7a4 4 = .ok (.ldc_w 265, 3) := by decide +kernel
theorem dJ6_bitCount_0f7a4_7 : decode cJ6_bitCount_0f7a4 7 = .ok (.iand, 1) := by decide +kernel
theorem dJ6_bitCount_0f7a4_8 : decode cJ6_bitCount_0f7a4 8 = .ok (.isub, 1) := by decide +kernel
theorem dJ6_bitCount_0f7a4_9 : decode cJ6_bitCount_0f7a4 9 = .ok (.istore_n 0, 1) := by decide +kernel
theorem dJ6_bitCount_0f7a4_10 : decode cJ6_bitCount_0f7a4 10 = .ok (.iload_n 0, 1) := by decide +kernel
theorem dJ6_bitCount_0f7a4_11 : decode cJ6_bitCount_0f7a4 11 = .ok (.ldc_w 266, 3) := by decide +kernel
theorem dJ6_bitCount_0f7a4_14 : decode cJ6_bitCount_0f7a4 14 = .ok (.iand, 1) := by decide +kernel
theorem dJ6_bitCount_0f7a4_15 : decode cJ6_bitCount_0f7a4 15 = .ok (.iload_n 0, 1) := by decide +kernel
theorem dJ6_bitCount_0f7a4_16 : decode cJ6_bitCount_0f7a4 16 = .ok (.iconst 2, 1) := by decide +kernel
theorem dJ6_bitCount_0f7a4_17 : decode cJ6_bitCount_0f7a4 17 = .ok (.iushr, 1) := by decide +kernel
theorem dJ6_bitCount_0f7a4_18 : decode cJ6_bitCount_0f7a4 18 = .ok (.ldc_w 266, 3) := by decide +kernel
theorem dJ6_bitCount_0f7a4_21 : decode cJ6_bitCount_0f7a4 21 = .ok (.iand, 1) := by decide +kernel
theorem dJ6_bitCount_0f7a4_22 : decode cJ6_bitCount_0f7a4 22 = .ok (.iadd, 1) := by decide +kernel
theorem dJ6_bitCount_0f7a4_23 : decode cJ6_bitCount_0f7a4 23 = .ok (.istore_n 0, 1) := by decide +kernel
theorem dJ6_bitCount_0f7a4_24 : decode cJ6_bitCount_0f7a4 24 = .ok (.iload_n 0, 1) := by decide +kernel
theorem dJ6_bitCount_0f7a4_25 : decode cJ6_bitCount_0f7a4 25 = .ok (.iload_n 0, 1) := by decide +kernel
theorem dJ6_bitCount_0f7a4_26 : decode cJ6_bitCount_0f7a4 26 = .ok (.iconst 4, 1) := by decide +kernel
theorem dJ6_bitCount_0f7a4_27 : decode cJ6_bitCount_0f7a4 27 = .ok (.iushr, 1) := by decide +kernel
theorem dJ6_bitCount_0f7a4_28 : decode cJ6_bitCount_0f7a4 28 = .ok (.iadd, 1) := by decide +kernel
theorem dJ6_bitCount_0f7a4_29 : decode cJ6_bitCount_0f7a4 29 = .ok (.ldc_w 267, 3) := by decide +kernel
theorem dJ6_bitCount_0f7a4_32 : decode cJ6_bitCount_0f7a4 32 = .ok (.iand, 1) := by decide +kernel
theorem dJ6_bitCount_0f7a4_33 : decode cJ6_bitCount_0f7a4 33 = .ok (.istore_n 0, 1) := by decide +kernel
theorem dJ6_bitCount_0f7a4_34 : decode cJ6_bitCount_0f7a4 34 = .ok (.iload_n 0, 1) := by decide +kernel
theorem dJ6_bitCount_0f7a4_35 : decode cJ6_bitCount_0f7a4 35 = .ok (.iload_n 0, 1) := by decide +kernel
theorem dJ6_bitCount_0f7a4_36 : decode cJ6_bitCount_0f7a4 36 = .ok (.bipush 8, 2) := by decide +kernel
theorem dJ6_bitCount_0f7a4_38 : decode cJ6_bitCount_0f7a4 38 = .ok (.iushr, 1) := by decide +kernel
theorem dJ6_bitCount_0f7a4_39 : decode cJ6_bitCount_0f7a4 39 = .ok (.iadd, 1) := by decide +kernel
theorem dJ6_bitCount_0f7a4_40 : decode cJ6_bitCount_0f7a4 40 = .ok (.istore_n 0, 1) := by decide +kernel
theorem dJ6_bitCount_0f7a4_41 : decode cJ6_bitCount_0f7a4 41 = .ok (.iload_n 0, 1) := by decide +kernel
theorem dJ6_bitCount_0f7a4_42 : decode cJ6_bitCount_0f7a4 42 = .ok (.iload_n 0, 1) := by decide +kernel
theorem dJ6_bitCount_0f7a4_43 : decode cJ6_bitCount_0f7a4 43 = .ok (.bipush 16, 2) := by decide +kernel
theorem dJ6_bitCount_0f7a4_45 : decode cJ6_bitCount_0f7a4 45 = .ok (.iushr, 1) := by decide +kernel
theorem dJ6_bitCount_0f7a4_46 : decode cJ6_bitCount_0f7a4 46 = .ok (.iadd, 1) := by decide +kernel
theorem dJ6_bitCount_0f7a4_47 : decode cJ6_bitCount_0f7a4 47 = .ok (.istore_n 0, 1) := by decide +kernel
theorem dJ6_bitCount_0f7a4_48 : decode cJ6_bitCount_0f7a4 48 = .ok (.iload_n 0, 1) := by decide +kernel
theorem dJ6_bitCount_0f7a4_49 : decode cJ6_bitCount_0f7a4 49 = .ok (.bipush 63, 2) := by decide +kernel
theorem dJ6_bitCount_0f7a4_51 : decode cJ6_bitCount_0f7a4 51 = .ok (.iand, 1) := by decide +kernel
theorem dJ6_bitCount_0f7a4_52 : decode cJ6_bitCount_0f7a4 52 = .ok (.ireturn, 1) := by decide +kernel
theorem dJ13_bitCount_95d88_0 : decode cJ13_bitCount_95d88 0 = .ok (.lload_n 0, 1) := by decide +kernel
theorem dJ13_bitCount_95d88_1 : decode cJ13_bitCount_95d88 1 = .ok (.lload_n 0, 1) := by decide +kernel
theorem dJ13_bitCount_95d88_2 : decode cJ13_bitCount_95d88 2 = .ok (.iconst 1, 1) := by decide +kernel
theorem dJ13_bitCount_95d88_3 : decode cJ13_bitCount_95d88 3 = .ok (.lushr, 1) := by decide +kernel
theorem dJ13_bitCount_95d88_4 : decode cJ13_bitCount_95d88 4 = .ok (.ldc2_w 314, 3) := by decide +kernel
theorem dJ13_bitCount_95d88_7 : decode cJ13_bitCount_95d88 7 = .ok (.land, 1) := by decide +kernel
theorem dJ13_bitCount_95d88_8 : decode cJ13_bitCount_95d88 8 = .ok (.lsub, 1) := by decide +kernel
theorem dJ13_bitCount_95d88_9 : decode cJ13_bitCount_95d88 9 = .ok (.lstore_n 0, 1) := by decide +kernel
theorem dJ13_bitCount_95d88_10 : decode cJ13_bitCount_95d88 10 = .ok (.lload_n 0, 1) := by decide +kernel
theorem dJ13_bitCount_95d88_11 : decode cJ13_bitCount_95d88 11 = .ok (.ldc2_w 316, 3) := by decide +kernel
theorem dJ13_bitCount_95d88_14 : decode cJ13_bitCount_95d88 14 = .ok (.land, 1) := by decide +kernel
theorem dJ13_bitCount_95d88_15 : decode cJ13_bitCount_95d88 15 = .ok (.lload_n 0, 1) := by decide +kernel
theorem dJ13_bitCount_95d88_16 : decode cJ13_bitCount_95d88 16 = .ok (.iconst 2, 1) := by decide +kernel
theorem dJ13_bitCount_95d88_17 : decode cJ13_bitCount_95d88 17 = .ok (.lushr, 1) := by decide +kernel
theorem dJ13_bitCount_95d88_18 : decode cJ13_bitCount_95d88 18 = .ok (.ldc2_w 316, 3) := by decide +kernel
theorem dJ13_bitCount_95d88_21 : decode cJ13_bitCount_95d88 21 = .ok (.land, 1) := by decide +kernel
theorem dJ13_bitCount_95d88_22 : decode cJ13_bitCount_95d88 22 = .ok (.ladd, 1) := by decide +kernel
theorem dJ13_bitCount_95d88_23 : decode cJ13_bitCount_95d88 23 = .ok (.lstore_n 0, 1) := by decide +kernel
theorem dJ13_bitCount_95d88_24 : decode cJ13_bitCount_95d88 24 = .ok (.lload_n 0, 1) := by decide +kernel
theorem dJ13_bitCount_95d88_25 : decode cJ13_bitCount_95d88 25 = .ok (.lload_n 0, 1) := by decide +kernel
theorem dJ13_bitCount_95d88_26 : decode cJ13_bitCount_95d88 26 = .ok (.iconst 4, 1) := by decide +kernel
theorem dJ13_bitCount_95d88_27 : decode cJ13_bitCount_95d88 27 = .ok (.lushr, 1) := by decide +kernel
theorem dJ13_bitCount_95d88_28 : decode cJ13_bitCount_95d88 28 = .ok (.ladd, 1) := by decide +kernel
theorem dJ13_bitCount_95d88_29 : decode cJ13_bitCount_95d88 29 = .ok (.ldc2_w 318, 3) := by decide +kernel
theorem dJ13_bitCount_95d88_32 : decode cJ13_bitCount_95d88 32 = .ok (.land, 1) := by decide +kernel
theorem dJ13_bitCount_95d88_33 : decode cJ13_bitCount_95d88 33 = .ok (.lstore_n 0, 1) := by decide +kernel
theorem dJ13_bitCount_95d88_34 : decode cJ13_bitCount_95d88 34 = .ok (.lload_n 0, 1) := by decide +kernel
theorem dJ13_bitCount_95d88_35 : decode cJ13_bitCount_95d88 35 = .ok (.lload_n 0, 1) := by decide +kernel
theorem dJ13_bitCount_95d88_36 : decode cJ13_bitCount_95d88 36 = .ok (.bipush 8, 2) := by decide +kernel
theorem dJ13_bitCount_95d88_38 : decode cJ13_bitCount_95d88 38 = .ok (.lushr, 1) := by decide +kernel
theorem dJ13_bitCount_95d88_39 : decode cJ13_bitCount_95d88 39 = .ok (.ladd, 1) := by decide +kernel
theorem dJ13_bitCount_95d88_40 : decode cJ13_bitCount_95d88 40 = .ok (.lstore_n 0, 1) := by decide +kernel
theorem dJ13_bitCount_95d88_41 : decode cJ13_bitCount_95d88 41 = .ok (.lload_n 0, 1) := by decide +kernel
theorem dJ13_bitCount_95d88_42 : decode cJ13_bitCount_95d88 42 = .ok (.lload_n 0, 1) := by decide +kernel
theorem dJ13_bitCount_95d88_43 : decode cJ13_bitCount_95d88 43 = .ok (.bipush 16, 2) := by decide +kernel
theorem dJ13_bitCount_95d88_45 : decode cJ13_bitCount_95d88 45 = .ok (.lushr, 1) := by decide +kernel
theorem dJ13_bitCount_95d88_46 : decode cJ13_bitCount_95d88 46 = .ok (.ladd, 1) := by decide +kernel
theorem dJ13_bitCount_95d88_47 : decode cJ13_bitCount_95d88 47 = .ok (.lstore_n 0, 1) := by decide +kernel
theorem dJ13_bitCount_95d88_48 : decode cJ13_bitCount_95d88 48 = .ok (.lload_n 0, 1) := by decide +kernel
theorem dJ13_bitCount_95d88_49 : decode cJ13_bitCount_95d88 49 = .ok (.lload_n 0, 1) := by decide +kernel
theorem dJ13_bitCount_95d88_50 : decode cJ13_bitCount_95d88 50 = .ok (.bipush 32, 2) := by decide +kernel
theorem dJ13_bitCount_95d88_52 : decode cJ13_bitCount_95d88 52 = .ok (.lushr, 1) := by decide +kernel
theorem dJ13_bitCount_95d88_53 : decode cJ13_bitCount_95d88 53 = .ok (.ladd, 1) := by decide +kernel
theorem dJ13_bitCount_95d88_54 : decode cJ13_bitCount_95d88 54 = .ok (.lstore_n 0, 1) := by decide +kernel
theorem dJ13_bitCount_95d88_55 : decode cJ13_bitCount_95d88 55 = .ok (.lload_n 0, 1) := by decide +kernel
theorem dJ13_bitCount_95d88_56 : decode cJ13_bitCount_95d88 56 = .ok (.l2i, 1) := by decide +kernel
theorem dJ13_bitCount_95d88_57 : decode cJ13_bitCount_95d88 57 = .ok (.bipush 127, 2) := by decide +kernel
theorem dJ13_bitCount_95d88_59 : decode cJ13_bitCount_95d88 59 = .ok (.iand, 1) := by decide +kernel
theorem dJ13_bitCount_95d88_60 : decode cJ13_bitCount_95d88 60 = .ok (.ireturn, 1) := by decide +kernel
theorem dJ9_max_7cf53_0 : decode cJ9_max_7cf53 0 = .ok (.iload_n 0, 1) := by decide +kernel
theorem dJ9_max_7cf53_1 : decode cJ9_max_7cf53 1 = .ok (.iload_n 1, 1) := by decide +kernel
theorem dJ9_max_7cf53_2 : decode cJ9_max_7cf53 2 = .ok (.if_icmp .lt 7, 3) := by decide +kernel
theorem dJ9_max_7cf53_5 : decode cJ9_max_7cf53 5 = .ok (.iload_n 0, 1) := by decide +kernel
theorem dJ9_max_7cf53_6 : decode cJ9_max_7cf53 6 = .ok (.goto 4, 3) := by decide +kernel
theorem dJ9_max_7cf53_9 : decode cJ9_max_7cf53 9 = .ok (.iload_n 1, 1) := by decide +kernel
theorem dJ9_max_7cf53_10 : decode cJ9_max_7cf53 10 = .ok (.ireturn, 1) := by decide +kernel
theorem dJ9_min_7cf53_0 : decode cJ9_min_7cf53 0 = .ok (.iload_n 0, 1) := by decide +kernel
theorem dJ9_min_7cf53_1 : decode cJ9_min_7cf53 1 = .ok (.iload_n 1, 1) := by decide +kernel
theorem dJ9_min_7cf53_2 : decode cJ9_min_7cf53 2 = .ok (.if_icmp .gt 7, 3) := by decide +kernel
theorem dJ9_min_7cf53_5 : decode cJ9_min_7cf53 5 = .ok (.iload_n 0, 1) := by decide +kernel
theorem dJ9_min_7cf53_6 : decode cJ9_min_7cf53 6 = .ok (.goto 4, 3) := by decide +kernel
theorem dJ9_min_7cf53_9 : decode cJ9_min_7cf53 9 = .ok (.iload_n 1, 1) := by decide +kernel
theorem dJ9_min_7cf53_10 : decode cJ9_min_7cf53 10 = .ok (.ireturn, 1) := by decide +kernel
theorem dJ9_min_f86c9_0 : decode cJ9_min_f86c9 0 = .ok (.lload_n 0, 1) := by decide +kernel
theorem dJ9_min_f86c9_1 : decode cJ9_min_f86c9 1 = .ok (.lload_n 2, 1) := by decide +kernel
theorem dJ9_min_f86c9_2 : decode cJ9_min_f86c9 2 = .ok (.lcmp, 1) := by decide +kernel
theorem dJ9_min_f86c9_3 : decode cJ9_min_f86c9 3 = .ok (.ifCond .gt 7, 3) := by decide +kernel
theorem dJ9_min_f86c9_6 : decode cJ9_min_f86c9 6 = .ok (.lload_n 0, 1) := by decide +kernel
theorem dJ9_min_f86c9_7 : decode cJ9_min_f86c9 7 = .ok (.goto 4, 3) := by decide +kernel
theorem dJ9_min_f86c9_10 : decode cJ9_min_f86c9 10 = .ok (.lload_n 2, 1) := by decide +kernel
theorem dJ9_min_f86c9_11 : decode cJ9_min_f86c9 11 = .ok (.lreturn, 1) := by decide +kernel
theorem dJ7_fill_d0a16_0 : decode cJ7_fill_d0a16 0 = .ok (.iconst 0, 1) := by decide +kernel
theorem dJ7_fill_d0a16_1 : decode cJ7_fill_d0a16 1 = .ok (.istore_n 3, 1) := by decide +kernel
theorem dJ7_fill_d0a16_2 : decode cJ7_fill_d0a16 2 = .ok (.aload_n 0, 1) := by decide +kernel
theorem dJ7_fill_d0a16_3 : decode cJ7_fill_d0a16 3 = .ok (.arraylength, 1) := by decide +kernel
theorem dJ7_fill_d0a16_4 : decode cJ7_fill_d0a16 4 = .ok (.istore 4, 2) := by decide +kernel
theorem dJ7_fill_d0a16_6 : decode cJ7_fill_d0a16 6 = .ok (.iload_n 3, 1) := by decide +kernel
theorem dJ7_fill_d0a16_7 : decode cJ7_fill_d0a16 7 = .ok (.iload 4, 2) := by decide +kernel
theorem dJ7_fill_d0a16_9 : decode cJ7_fill_d0a16 9 = .ok (.if_icmp .ge 13, 3) := by decide +kernel
theorem dJ7_fill_d0a16_12 : decode cJ7_fill_d0a16 12 = .ok (.aload_n 0, 1) := by decide +kernel
theorem dJ7_fill_d0a16_13 : decode cJ7_fill_d0a16 13 = .ok (.iload_n 3, 1) := by decide +kernel
theorem dJ7_fill_d0a16_14 : decode cJ7_fill_d0a16 14 = .ok (.lload_n 1, 1) := by decide +kernel
theorem dJ7_fill_d0a16_15 : decode cJ7_fill_d0a16 15 = .ok (.lastore, 1) := by decide +kernel
theorem dJ7_fill_d0a16_16 : decode cJ7_fill_d0a16 16 = .ok (.iinc 3 1, 3) := by decide +kernel
theorem dJ7_fill_d0a16_19 : decode cJ7_fill_d0a16 19 = .ok (.goto (-13), 3) := by decide +kernel
theorem dJ7_fill_d0a16_22 : decode cJ7_fill_d0a16 22 = .ok (.return_, 1) := by decide +kernel
theorem dJ7_fill_53178_0 : decode cJ7_fill_53178 0 = .ok (.iconst 0, 1) := by decide +kernel
theorem dJ7_fill_53178_1 : decode cJ7_fill_53178 1 = .ok (.istore_n 2, 1) := by decide +kernel
theorem dJ7_fill_53178_2 : decode cJ7_fill_53178 2 = .ok (.aload_n 0, 1) := by decide +kernel
theorem dJ7_fill_53178_3 : decode cJ7_fill_53178 3 = .ok (.arraylength, 1) := by decide +kernel
theorem dJ7_fill_53178_4 : decode cJ7_fill_53178 4 = .ok (.istore_n 3, 1) := by decide +kernel
theorem dJ7_fill_53178_5 : decode cJ7_fill_53178 5 = .ok (.iload_n 2, 1) := by decide +kernel
theorem dJ7_fill_53178_6 : decode cJ7_fill_53178 6 = .ok (.iload_n 3, 1) := by decide +kernel
theorem dJ7_fill_53178_7 : decode cJ7_fill_53178 7 = .ok (.if_icmp .ge 13, 3) := by decide +kernel
theorem dJ7_fill_53178_10 : decode cJ7_fill_53178 10 = .ok (.aload_n 0, 1) := by decide +kernel
theorem dJ7_fill_53178_11 : decode cJ7_fill_53178 11 = .ok (.iload_n 2, 1) := by decide +kernel
theorem dJ7_fill_53178_12 : decode cJ7_fill_53178 12 = .ok (.iload_n 1, 1) := by decide +kernel
theorem dJ7_fill_53178_13 : decode cJ7_fill_53178 13 = .ok (.iastore, 1) := by decide +kernel
theorem dJ7_fill_53178_14 : decode cJ7_fill_53178 14 = .ok (.iinc 2 1, 3) := by decide +kernel
theorem dJ7_fill_53178_17 : decode cJ7_fill_53178 17 = .ok (.goto (-12), 3) := by decide +kernel
theorem dJ7_fill_53178_20 : decode cJ7_fill_53178 20 = .ok (.return_, 1) := by decide +kernel
theorem dL_law_0 : decode cL_law 0 = .ok (.new 7, 3) := by decide +kernel
theorem dL_law_3 : decode cL_law 3 = .ok (.dup, 1) := by decide +kernel
theorem dL_law_4 : decode cL_law 4 = .ok (.invokespecial 9, 3) := by decide +kernel
theorem dL_law_7 : decode cL_law 7 = .ok (.astore_n 1, 1) := by decide +kernel
theorem dL_law_8 : decode cL_law 8 = .ok (.new 10, 3) := by decide +kernel
theorem dL_law_11 : decode cL_law 11 = .ok (.dup, 1) := by decide +kernel
theorem dL_law_12 : decode cL_law 12 = .ok (.invokespecial 12, 3) := by decide +kernel
theorem dL_law_15 : decode cL_law 15 = .ok (.astore_n 2, 1) := by decide +kernel
theorem dL_law_16 : decode cL_law 16 = .ok (.iconst 0, 1) := by decide +kernel
theorem dL_law_17 : decode cL_law 17 = .ok (.istore_n 3, 1) := by decide +kernel
theorem dL_law_18 : decode cL_law 18 = .ok (.iload_n 3, 1) := by decide +kernel
theorem dL_law_19 : decode cL_law 19 = .ok (.aload_n 0, 1) := by decide +kernel
theorem dL_law_20 : decode cL_law 20 = .ok (.arraylength, 1) := by decide +kernel
theorem dL_law_21 : decode cL_law 21 = .ok (.iconst 4, 1) := by decide +kernel
theorem dL_law_22 : decode cL_law 22 = .ok (.isub, 1) := by decide +kernel
theorem dL_law_23 : decode cL_law 23 = .ok (.if_icmp .gt 850, 3) := by decide +kernel
theorem dL_law_26 : decode cL_law 26 = .ok (.aload_n 0, 1) := by decide +kernel
theorem dL_law_27 : decode cL_law 27 = .ok (.iload_n 3, 1) := by decide +kernel
theorem dL_law_28 : decode cL_law 28 = .ok (.iaload, 1) := by decide +kernel
theorem dL_law_29 : decode cL_law 29 = .ok (.bipush 31, 2) := by decide +kernel
theorem dL_law_31 : decode cL_law 31 = .ok (.iand, 1) := by decide +kernel
theorem dL_law_32 : decode cL_law 32 = .ok (.tableswitch 835 0 25 #[120, 143, 156, 169, 182, 215, 248, 281, 324, 367, 410, 453, 496, 529, 552, 575, 614, 647, 690, 703, 726, 739, 772, 785, 808, 821], 120) := by decide +kernel
theorem dL_law_152 : decode cL_law 152 = .ok (.aload_n 1, 1) := by decide +kernel
theorem dL_law_153 : decode cL_law 153 = .ok (.aload_n 0, 1) := by decide +kernel
theorem dL_law_154 : decode cL_law 154 = .ok (.iload_n 3, 1) := by decide +kernel
theorem dL_law_155 : decode cL_law 155 = .ok (.iconst 1, 1) := by decide +kernel
theorem dL_law_156 : decode cL_law 156 = .ok (.iadd, 1) := by decide +kernel
theorem dL_law_157 : decode cL_law 157 = .ok (.iaload, 1) := by decide +kernel
theorem dL_law_158 : decode cL_law 158 = .ok (.invokevirtual 13, 3) := by decide +kernel
theorem dL_law_161 : decode cL_law 161 = .ok (.aload_n 2, 1) := by decide +kernel
theorem dL_law_162 : decode cL_law 162 = .ok (.aload_n 0, 1) := by decide +kernel
theorem dL_law_163 : decode cL_law 163 = .ok (.iload_n 3, 1) := by decide +kernel
theorem dL_law_164 : decode cL_law 164 = .ok (.iconst 1, 1) := by decide +kernel
theorem dL_law_165 : decode cL_law 165 = .ok (.iadd, 1) := by decide +kernel
theorem dL_law_166 : decode cL_law 166 = .ok (.iaload, 1) := by decide +kernel
theorem dL_law_167 : decode cL_law 167 = .ok (.invokevirtual 17, 3) := by decide +kernel
theorem dL_law_170 : decode cL_law 170 = .ok (.if_icmp .eq 697, 3) := by decide +kernel
theorem dL_law_173 : decode cL_law 173 = .ok (.iconst 0, 1) := by decide +kernel
theorem dL_law_174 : decode cL_law 174 = .ok (.ireturn, 1) := by decide +kernel
theorem dL_law_175 : decode cL_law 175 = .ok (.aload_n 1, 1) := by decide +kernel
theorem dL_law_176 : decode cL_law 176 = .ok (.invokevirtual 18, 3) := by decide +kernel
theorem dL_law_179 : decode cL_law 179 = .ok (.aload_n 2, 1) := by decide +kernel
theorem dL_law_180 : decode cL_law 180 = .ok (.invokevirtual 22, 3) := by decide +kernel
theorem dL_law_183 : decode cL_law 183 = .ok (.if_icmp .eq 684, 3) := by decide +kernel
theorem dL_law_186 : decode cL_law 186 = .ok (.iconst 0, 1) := by decide +kernel
theorem dL_law_187 : decode cL_law 187 = .ok (.ireturn, 1) := by decide +kernel
theorem dL_law_188 : decode cL_law 188 = .ok (.aload_n 1, 1) := by decide +kernel
theorem dL_law_189 : decode cL_law 189 = .ok (.invokevirtual 23, 3) := by decide +kernel
theorem dL_law_192 : decode cL_law 192 = .ok (.aload_n 2, 1) := by decide +kernel
theorem dL_law_193 : decode cL_law 193 = .ok (.invokevirtual 26, 3) := by decide +kernel
theorem dL_law_196 : decode cL_law 196 = .ok (.if_icmp .eq 671, 3) := by decide +kernel
theorem dL_law_199 : decode cL_law 199 = .ok (.iconst 0, 1) := by decide +kernel
theorem dL_law_200 : decode cL_law 200 = .ok (.ireturn, 1) := by decide +kernel
theorem dL_law_201 : decode cL_law 201 = .ok (.aload_n 1, 1) := by decide +kernel
theorem dL_law_202 : decode cL_law 202 = .ok (.invokevirtual 27, 3) := by decide +kernel
theorem dL_law_205 : decode cL_law 205 = .ok (.aload_n 2, 1) := by decide +kernel
theorem dL_law_206 : decode cL_law 206 = .ok (.invokevirtual 30, 3) := by decide +kernel
theorem dL_law_209 : decode cL_law 209 = .ok (.if_icmp .eq 658, 3) := by decide +kernel
theorem dL_law_212 : decode cL_law 212 = .ok (.iconst 0, 1) := by decide +kernel
theorem dL_law_213 : decode cL_law 213 = .ok (.ireturn, 1) := by decide +kernel
theorem dL_law_214 : decode cL_law 214 = .ok (.aload_n 1, 1) := by decide +kernel
theorem dL_law_215 : decode cL_law 215 = .ok (.aload_n 0, 1) := by decide +kernel
theorem dL_law_216 : decode cL_law 216 = .ok (.iload_n 3, 1) := by decide +kernel
theorem dL_law_217 : decode cL_law 217 = .ok (.iconst 1, 1) := by decide +kernel
theorem dL_law_218 : decode cL_law 218 = .ok (.iadd, 1) := by decide +kernel
theorem dL_law_219 : decode cL_law 219 = .ok (.iaload, 1) := by decide +kernel
theorem dL_law_220 : decode cL_law 220 = .ok (.aload_n 0, 1) := by decide +kernel
theorem dL_law_221 : decode cL_law 221 = .ok (.iload_n 3, 1) := by decide +kernel
theorem dL_law_222 : decode cL_law 222 = .ok (.iconst 2, 1) := by decide +kernel
theorem dL_law_223 : decode cL_law 223 = .ok (.iadd, 1) := by decide +kernel
theorem dL_law_224 : decode cL_law 224 = .ok (.iaload, 1) := by decide +kernel
theorem dL_law_225 : decode cL_law 225 = .ok (.invokevirtual 31, 3) := by decide +kernel
theorem dL_law_228 : decode cL_law 228 = .ok (.aload_n 2, 1) := by decide +kernel
theorem dL_law_229 : decode cL_law 229 = .ok (.aload_n 0, 1) := by decide +kernel
theorem dL_law_230 : decode cL_law 230 = .ok (.iload_n 3, 1) := by decide +kernel
theorem dL_law_231 : decode cL_law 231 = .ok (.iconst 1, 1) := by decide +kernel
theorem dL_law_232 : decode cL_law 232 = .ok (.iadd, 1) := by decide +kernel
theorem dL_law_233 : decode cL_law 233 = .ok (.iaload, 1) := by decide +kernel
theorem dL_law_234 : decode cL_law 234 = .ok (.aload_n 0, 1) := by decide +kernel
theorem dL_law_235 : decode cL_law 235 = .ok (.iload_n 3, 1) := by decide +kernel
theorem dL_law_236 : decode cL_law 236 = .ok (.iconst 2, 1) := by decide +kernel
theorem dL_law_237 : decode cL_law 237 = .ok (.iadd, 1) := by decide +kernel
theorem dL_law_238 : decode cL_law 238 = .ok (.iaload, 1) := by decide +kernel
theorem dL_law_239 : decode cL_law 239 = .ok (.invokevirtual 35, 3) := by decide +kernel
theorem dL_law_242 : decode cL_law 242 = .ok (.if_icmp .eq 625, 3) := by decide +kernel
theorem dL_law_245 : decode cL_law 245 = .ok (.iconst 0, 1) := by decide +kernel
theorem dL_law_246 : decode cL_law 246 = .ok (.ireturn, 1) := by decide +kernel
theorem dL_law_247 : decode cL_law 247 = .ok (.aload_n 1, 1) := by decide +kernel
theorem dL_law_248 : decode cL_law 248 = .ok (.aload_n 0, 1) := by decide +kernel
theorem dL_law_249 : decode cL_law 249 = .ok (.iload_n 3, 1) := by decide +kernel
theorem dL_law_250 : decode cL_law 250 = .ok (.iconst 1, 1) := by decide +kernel
theorem dL_law_251 : decode cL_law 251 = .ok (.iadd, 1) := by decide +kernel
theorem dL_law_252 : decode cL_law 252 = .ok (.iaload, 1) := by decide +kernel
theorem dL_law_253 : decode cL_law 253 = .ok (.aload_n 0, 1) := by decide +kernel
theorem dL_law_254 : decode cL_law 254 = .ok (.iload_n 3, 1) := by decide +kernel
theorem dL_law_255 : decode cL_law 255 = .ok (.iconst 2, 1) := by decide +kernel
theorem dL_law_256 : decode cL_law 256 = .ok (.iadd, 1) := by decide +kernel
theorem dL_law_257 : decode cL_law 257 = .ok (.iaload, 1) := by decide +kernel
theorem dL_law_258 : decode cL_law 258 = .ok (.invokevirtual 36, 3) := by decide +kernel
theorem dL_law_261 : decode cL_law 261 = .ok (.aload_n 2, 1) := by decide +kernel
theorem dL_law_262 : decode cL_law 262 = .ok (.aload_n 0, 1) := by decide +kernel
theorem dL_law_263 : decode cL_law 263 = .ok (.iload_n 3, 1) := by decide +kernel
theorem dL_law_264 : decode cL_law 264 = .ok (.iconst 1, 1) := by decide +kernel
theorem dL_law_265 : decode cL_law 265 = .ok (.iadd, 1) := by decide +kernel
theorem dL_law_266 : decode cL_law 266 = .ok (.iaload, 1) := by decide +kernel
theorem dL_law_267 : decode cL_law 267 = .ok (.aload_n 0, 1) := by decide +kernel
theorem dL_law_268 : decode cL_law 268 = .ok (.iload_n 3, 1) := by decide +kernel
theorem dL_law_269 : decode cL_law 269 = .ok (.iconst 2, 1) := by decide +kernel
theorem dL_law_270 : decode cL_law 270 = .ok (.iadd, 1) := by decide +kernel
theorem dL_law_271 : decode cL_law 271 = .ok (.iaload, 1) := by decide +kernel
theorem dL_law_272 : decode cL_law 272 = .ok (.invokevirtual 39, 3) := by decide +kernel
theorem dL_law_275 : decode cL_law 275 = .ok (.if_icmp .eq 592, 3) := by decide +kernel
theorem dL_law_278 : decode cL_law 278 = .ok (.iconst 0, 1) := by decide +kernel
theorem dL_law_279 : decode cL_law 279 = .ok (.ireturn, 1) := by decide +kernel
theorem dL_law_280 : decode cL_law 280 = .ok (.aload_n 1, 1) := by decide +kernel
theorem dL_law_281 : decode cL_law 281 = .ok (.aload_n 0, 1) := by decide +kernel
theorem dL_law_282 : decode cL_law 282 = .ok (.iload_n 3, 1) := by decide +kernel
theorem dL_law_283 : decode cL_law 283 = .ok (.iconst 1, 1) := by decide +kernel
theorem dL_law_284 : decode cL_law 284 = .ok (.iadd, 1) := by decide +kernel
theorem dL_law_285 : decode cL_law 285 = .ok (.iaload, 1) := by decide +kernel
theorem dL_law_286 : decode cL_law 286 = .ok (.aload_n 0, 1) := by decide +kernel
theorem dL_law_287 : decode cL_law 287 = .ok (.iload_n 3, 1) := by decide +kernel
theorem dL_law_288 : decode cL_law 288 = .ok (.iconst 2, 1) := by decide +kernel
theorem dL_law_289 : decode cL_law 289 = .ok (.iadd, 1) := by decide +kernel
theorem dL_law_290 : decode cL_law 290 = .ok (.iaload, 1) := by decide +kernel
theorem dL_law_291 : decode cL_law 291 = .ok (.invokevirtual 40, 3) := by decide +kernel
theorem dL_law_294 : decode cL_law 294 = .ok (.aload_n 2, 1) := by decide +kernel
theorem dL_law_295 : decode cL_law 295 = .ok (.aload_n 0, 1) := by decide +kernel
theorem dL_law_296 : decode cL_law 296 = .ok (.iload_n 3, 1) := by decide +kernel
theorem dL_law_297 : decode cL_law 297 = .ok (.iconst 1, 1) := by decide +kernel
theorem dL_law_298 : decode cL_law 298 = .ok (.iadd, 1) := by decide +kernel
theorem dL_law_299 : decode cL_law 299 = .ok (.iaload, 1) := by decide +kernel
theorem dL_law_300 : decode cL_law 300 = .ok (.aload_n 0, 1) := by decide +kernel
theorem dL_law_301 : decode cL_law 301 = .ok (.iload_n 3, 1) := by decide +kernel
theorem dL_law_302 : decode cL_law 302 = .ok (.iconst 2, 1) := by decide +kernel
theorem dL_law_303 : decode cL_law 303 = .ok (.iadd, 1) := by decide +kernel
theorem dL_law_304 : decode cL_law 304 = .ok (.iaload, 1) := by decide +kernel
theorem dL_law_305 : decode cL_law 305 = .ok (.invokevirtual 43, 3) := by decide +kernel
theorem dL_law_308 : decode cL_law 308 = .ok (.if_icmp .eq 559, 3) := by decide +kernel
theorem dL_law_311 : decode cL_law 311 = .ok (.iconst 0, 1) := by decide +kernel
theorem dL_law_312 : decode cL_law 312 = .ok (.ireturn, 1) := by decide +kernel
theorem dL_law_313 : decode cL_law 313 = .ok (.aload_n 1, 1) := by decide +kernel
theorem dL_law_314 : decode cL_law 314 = .ok (.aload_n 0, 1) := by decide +kernel
theorem dL_law_315 : decode cL_law 315 = .ok (.iload_n 3, 1) := by decide +kernel
theorem dL_law_316 : decode cL_law 316 = .ok (.iconst 1, 1) := by decide +kernel
theorem dL_law_317 : decode cL_law 317 = .ok (.iadd, 1) := by decide +kernel
theorem dL_law_318 : decode cL_law 318 = .ok (.iaload, 1) := by decide +kernel
theorem dL_law_319 : decode cL_law 319 = .ok (.aload_n 0, 1) := by decide +kernel
theorem dL_law_320 : decode cL_law 320 = .ok (.iload_n 3, 1) := by decide +kernel
theorem dL_law_321 : decode cL_law 321 = .ok (.iconst 2, 1) := by decide +kernel
theorem dL_law_322 : decode cL_law 322 = .ok (.iadd, 1) := by decide +kernel
theorem dL_law_323 : decode cL_law 323 = .ok (.iaload, 1) := by decide +kernel
theorem dL_law_324 : decode cL_law 324 = .ok (.aload_n 0, 1) := by decide +kernel
theorem dL_law_325 : decode cL_law 325 = .ok (.iload_n 3, 1) := by decide +kernel
theorem dL_law_326 : decode cL_law 326 = .ok (.iconst 3, 1) := by decide +kernel
theorem dL_law_327 : decode cL_law 327 = .ok (.iadd, 1) := by decide +kernel
theorem dL_law_328 : decode cL_law 328 = .ok (.iaload, 1) := by decide +kernel
theorem dL_law_329 : decode cL_law 329 = .ok (.invokevirtual 44, 3) := by decide +kernel
theorem dL_law_332 : decode cL_law 332 = .ok (.aload_n 2, 1) := by decide +kernel
theorem dL_law_333 : decode cL_law 333 = .ok (.aload_n 0, 1) := by decide +kernel
theorem dL_law_334 : decode cL_law 334 = .ok (.iload_n 3, 1) := by decide +kernel
theorem dL_law_335 : decode cL_law 335 = .ok (.iconst 1, 1) := by decide +kernel
theorem dL_law_336 : decode cL_law 336 = .ok (.iadd, 1) := by decide +kernel
theorem dL_law_337 : decode cL_law 337 = .ok (.iaload, 1) := by decide +kernel
theorem dL_law_338 : decode cL_law 338 = .ok (.aload_n 0, 1) := by decide +kernel
theorem dL_law_339 : decode cL_law 339 = .ok (.iload_n 3, 1) := by decide +kernel
theorem dL_law_340 : decode cL_law 340 = .ok (.iconst 2, 1) := by decide +kernel
theorem dL_law_341 : decode cL_law 341 = .ok (.iadd, 1) := by decide +kernel
theorem dL_law_342 : decode cL_law 342 = .ok (.iaload, 1) := by decide +kernel
theorem dL_law_343 : decode cL_law 343 = .ok (.aload_n 0, 1) := by decide +kernel
theorem dL_law_344 : decode cL_law 344 = .ok (.iload_n 3, 1) := by decide +kernel
theorem dL_law_345 : decode cL_law 345 = .ok (.iconst 3, 1) := by decide +kernel
theorem dL_law_346 : decode cL_law 346 = .ok (.iadd, 1) := by decide +kernel
theorem dL_law_347 : decode cL_law 347 = .ok (.iaload, 1) := by decide +kernel
theorem dL_law_348 : decode cL_law 348 = .ok (.invokevirtual 48, 3) := by decide +kernel
theorem dL_law_351 : decode cL_law 351 = .ok (.if_icmp .eq 516, 3) := by decide +kernel
theorem dL_law_354 : decode cL_law 354 = .ok (.iconst 0, 1) := by decide +kernel
theorem dL_law_355 : decode cL_law 355 = .ok (.ireturn, 1) := by decide +kernel
theorem dL_law_356 : decode cL_law 356 = .ok (.aload_n 1, 1) := by decide +kernel
theorem dL_law_357 : decode cL_law 357 = .ok (.aload_n 0, 1) := by decide +kernel
theorem dL_law_358 : decode cL_law 358 = .ok (.iload_n 3, 1) := by decide +kernel
theorem dL_law_359 : decode cL_law 359 = .ok (.iconst 1, 1) := by decide +kernel
theorem dL_law_360 : decode cL_law 360 = .ok (.iadd, 1) := by decide +kernel
theorem dL_law_361 : decode cL_law 361 = .ok (.iaload, 1) := by decide +kernel
theorem dL_law_362 : decode cL_law 362 = .ok (.aload_n 0, 1) := by decide +kernel
theorem dL_law_363 : decode cL_law 363 = .ok (.iload_n 3, 1) := by decide +kernel
theorem dL_law_364 : decode cL_law 364 = .ok (.iconst 2, 1) := by decide +kernel
theorem dL_law_365 : decode cL_law 365 = .ok (.iadd, 1) := by decide +kernel
theorem dL_law_366 : decode cL_law 366 = .ok (.iaload, 1) := by decide +kernel
theorem dL_law_367 : decode cL_law 367 = .ok (.aload_n 0, 1) := by decide +kernel
theorem dL_law_368 : decode cL_law 368 = .ok (.iload_n 3, 1) := by decide +kernel
theorem dL_law_369 : decode cL_law 369 = .ok (.iconst 3, 1) := by decide +kernel
theorem dL_law_370 : decode cL_law 370 = .ok (.iadd, 1) := by decide +kernel
theorem dL_law_371 : decode cL_law 371 = .ok (.iaload, 1) := by decide +kernel
theorem dL_law_372 : decode cL_law 372 = .ok (.invokevirtual 49, 3) := by decide +kernel
theorem dL_law_375 : decode cL_law 375 = .ok (.aload_n 2, 1) := by decide +kernel
theorem dL_law_376 : decode cL_law 376 = .ok (.aload_n 0, 1) := by decide +kernel
theorem dL_law_377 : decode cL_law 377 = .ok (.iload_n 3, 1) := by decide +kernel
theorem dL_law_378 : decode cL_law 378 = .ok (.iconst 1, 1) := by decide +kernel
theorem dL_law_379 : decode cL_law 379 = .ok (.iadd, 1) := by decide +kernel
theorem dL_law_380 : decode cL_law 380 = .ok (.iaload, 1) := by decide +kernel
theorem dL_law_381 : decode cL_law 381 = .ok (.aload_n 0, 1) := by decide +kernel
theorem dL_law_382 : decode cL_law 382 = .ok (.iload_n 3, 1) := by decide +kernel
theorem dL_law_383 : decode cL_law 383 = .ok (.iconst 2, 1) := by decide +kernel
theorem dL_law_384 : decode cL_law 384 = .ok (.iadd, 1) := by decide +kernel
theorem dL_law_385 : decode cL_law 385 = .ok (.iaload, 1) := by decide +kernel
theorem dL_law_386 : decode cL_law 386 = .ok (.aload_n 0, 1) := by decide +kernel
theorem dL_law_387 : decode cL_law 387 = .ok (.iload_n 3, 1) := by decide +kernel
theorem dL_law_388 : decode cL_law 388 = .ok (.iconst 3, 1) := by decide +kernel
theorem dL_law_389 : decode cL_law 389 = .ok (.iadd, 1) := by decide +kernel
theorem dL_law_390 : decode cL_law 390 = .ok (.iaload, 1) := by decide +kernel
theorem dL_law_391 : decode cL_law 391 = .ok (.invokevirtual 52, 3) := by decide +kernel
theorem dL_law_394 : decode cL_law 394 = .ok (.if_icmp .eq 473, 3) := by decide +kernel
theorem dL_law_397 : decode cL_law 397 = .ok (.iconst 0, 1) := by decide +kernel
theorem dL_law_398 : decode cL_law 398 = .ok (.ireturn, 1) := by decide +kernel
theorem dL_law_399 : decode cL_law 399 = .ok (.aload_n 1, 1) := by decide +kernel
theorem dL_law_400 : decode cL_law 400 = .ok (.aload_n 0, 1) := by decide +kernel
theorem dL_law_401 : decode cL_law 401 = .ok (.iload_n 3, 1) := by decide +kernel
theorem dL_law_402 : decode cL_law 402 = .ok (.iconst 1, 1) := by decide +kernel
theorem dL_law_403 : decode cL_law 403 = .ok (.iadd, 1) := by decide +kernel
theorem dL_law_404 : decode cL_law 404 = .ok (.iaload, 1) := by decide +kernel
theorem dL_law_405 : decode cL_law 405 = .ok (.aload_n 0, 1) := by decide +kernel
theorem dL_law_406 : decode cL_law 406 = .ok (.iload_n 3, 1) := by decide +kernel
theorem dL_law_407 : decode cL_law 407 = .ok (.iconst 2, 1) := by decide +kernel
theorem dL_law_408 : decode cL_law 408 = .ok (.iadd, 1) := by decide +kernel
theorem dL_law_409 : decode cL_law 409 = .ok (.iaload, 1) := by decide +kernel
theorem dL_law_410 : decode cL_law 410 = .ok (.aload_n 0, 1) := by decide +kernel
theorem dL_law_411 : decode cL_law 411 = .ok (.iload_n 3, 1) := by decide +kernel
theorem dL_law_412 : decode cL_law 412 = .ok (.iconst 3, 1) := by decide +kernel
theorem dL_law_413 : decode cL_law 413 = .ok (.iadd, 1) := by decide +kernel
theorem dL_law_414 : decode cL_law 414 = .ok (.iaload, 1) := by decide +kernel
theorem dL_law_415 : decode cL_law 415 = .ok (.invokevirtual 53, 3) := by decide +kernel
theorem dL_law_418 : decode cL_law 418 = .ok (.aload_n 2, 1) := by decide +kernel
theorem dL_law_419 : decode cL_law 419 = .ok (.aload_n 0, 1) := by decide +kernel
theorem dL_law_420 : decode cL_law 420 = .ok (.iload_n 3, 1) := by decide +kernel
theorem dL_law_421 : decode cL_law 421 = .ok (.iconst 1, 1) := by decide +kernel
theorem dL_law_422 : decode cL_law 422 = .ok (.iadd, 1) := by decide +kernel
theorem dL_law_423 : decode cL_law 423 = .ok (.iaload, 1) := by decide +kernel
theorem dL_law_424 : decode cL_law 424 = .ok (.aload_n 0, 1) := by decide +kernel
theorem dL_law_425 : decode cL_law 425 = .ok (.iload_n 3, 1) := by decide +kernel
theorem dL_law_426 : decode cL_law 426 = .ok (.iconst 2, 1) := by decide +kernel
theorem dL_law_427 : decode cL_law 427 = .ok (.iadd, 1) := by decide +kernel
theorem dL_law_428 : decode cL_law 428 = .ok (.iaload, 1) := by decide +kernel
theorem dL_law_429 : decode cL_law 429 = .ok (.aload_n 0, 1) := by decide +kernel
theorem dL_law_430 : decode cL_law 430 = .ok (.iload_n 3, 1) := by decide +kernel
theorem dL_law_431 : decode cL_law 431 = .ok (.iconst 3, 1) := by decide +kernel
theorem dL_law_432 : decode cL_law 432 = .ok (.iadd, 1) := by decide +kernel
theorem dL_law_433 : decode cL_law 433 = .ok (.iaload, 1) := by decide +kernel
theorem dL_law_434 : decode cL_law 434 = .ok (.invokevirtual 56, 3) := by decide +kernel
theorem dL_law_437 : decode cL_law 437 = .ok (.if_icmp .eq 430, 3) := by decide +kernel
theorem dL_law_440 : decode cL_law 440 = .ok (.iconst 0, 1) := by decide +kernel
theorem dL_law_441 : decode cL_law 441 = .ok (.ireturn, 1) := by decide +kernel
theorem dL_law_442 : decode cL_law 442 = .ok (.aload_n 1, 1) := by decide +kernel
theorem dL_law_443 : decode cL_law 443 = .ok (.aload_n 0, 1) := by decide +kernel
theorem dL_law_444 : decode cL_law 444 = .ok (.iload_n 3, 1) := by decide +kernel
theorem dL_law_445 : decode cL_law 445 = .ok (.iconst 1, 1) := by decide +kernel
theorem dL_law_446 : decode cL_law 446 = .ok (.iadd, 1) := by decide +kernel
theorem dL_law_447 : decode cL_law 447 = .ok (.iaload, 1) := by decide +kernel
theorem dL_law_448 : decode cL_law 448 = .ok (.aload_n 0, 1) := by decide +kernel
theorem dL_law_449 : decode cL_law 449 = .ok (.iload_n 3, 1) := by decide +kernel
theorem dL_law_450 : decode cL_law 450 = .ok (.iconst 2, 1) := by decide +kernel
theorem dL_law_451 : decode cL_law 451 = .ok (.iadd, 1) := by decide +kernel
theorem dL_law_452 : decode cL_law 452 = .ok (.iaload, 1) := by decide +kernel
theorem dL_law_453 : decode cL_law 453 = .ok (.aload_n 0, 1) := by decide +kernel
theorem dL_law_454 : decode cL_law 454 = .ok (.iload_n 3, 1) := by decide +kernel
theorem dL_law_455 : decode cL_law 455 = .ok (.iconst 3, 1) := by decide +kernel
theorem dL_law_456 : decode cL_law 456 = .ok (.iadd, 1) := by decide +kernel
theorem dL_law_457 : decode cL_law 457 = .ok (.iaload, 1) := by decide +kernel
theorem dL_law_458 : decode cL_law 458 = .ok (.invokevirtual 57, 3) := by decide +kernel
theorem dL_law_461 : decode cL_law 461 = .ok (.aload_n 2, 1) := by decide +kernel
theorem dL_law_462 : decode cL_law 462 = .ok (.aload_n 0, 1) := by decide +kernel
theorem dL_law_463 : decode cL_law 463 = .ok (.iload_n 3, 1) := by decide +kernel
theorem dL_law_464 : decode cL_law 464 = .ok (.iconst 1, 1) := by decide +kernel
theorem dL_law_465 : decode cL_law 465 = .ok (.iadd, 1) := by decide +kernel
theorem dL_law_466 : decode cL_law 466 = .ok (.iaload, 1) := by decide +kernel
theorem dL_law_467 : decode cL_law 467 = .ok (.aload_n 0, 1) := by decide +kernel
theorem dL_law_468 : decode cL_law 468 = .ok (.iload_n 3, 1) := by decide +kernel
theorem dL_law_469 : decode cL_law 469 = .ok (.iconst 2, 1) := by decide +kernel
theorem dL_law_470 : decode cL_law 470 = .ok (.iadd, 1) := by decide +kernel
theorem dL_law_471 : decode cL_law 471 = .ok (.iaload, 1) := by decide +kernel
theorem dL_law_472 : decode cL_law 472 = .ok (.aload_n 0, 1) := by decide +kernel
theorem dL_law_473 : decode cL_law 473 = .ok (.iload_n 3, 1) := by decide +kernel
theorem dL_law_474 : decode cL_law 474 = .ok (.iconst 3, 1) := by decide +kernel
theorem dL_law_475 : decode cL_law 475 = .ok (.iadd, 1) := by decide +kernel
theorem dL_law_476 : decode cL_law 476 = .ok (.iaload, 1) := by decide +kernel
theorem dL_law_477 : decode cL_law 477 = .ok (.invokevirtual 60, 3) := by decide +kernel
theorem dL_law_480 : decode cL_law 480 = .ok (.if_icmp .eq 387, 3) := by decide +kernel
theorem dL_law_483 : decode cL_law 483 = .ok (.iconst 0, 1) := by decide +kernel
theorem dL_law_484 : decode cL_law 484 = .ok (.ireturn, 1) := by decide +kernel
theorem dL_law_485 : decode cL_law 485 = .ok (.aload_n 1, 1) := by decide +kernel
theorem dL_law_486 : decode cL_law 486 = .ok (.aload_n 0, 1) := by decide +kernel
theorem dL_law_487 : decode cL_law 487 = .ok (.iload_n 3, 1) := by decide +kernel
theorem dL_law_488 : decode cL_law 488 = .ok (.iconst 1, 1) := by decide +kernel
theorem dL_law_489 : decode cL_law 489 = .ok (.iadd, 1) := by decide +kernel
theorem dL_law_490 : decode cL_law 490 = .ok (.iaload, 1) := by decide +kernel
theorem dL_law_491 : decode cL_law 491 = .ok (.aload_n 0, 1) := by decide +kernel
theorem dL_law_492 : decode cL_law 492 = .ok (.iload_n 3, 1) := by decide +kernel
theorem dL_law_493 : decode cL_law 493 = .ok (.iconst 2, 1) := by decide +kernel
theorem dL_law_494 : decode cL_law 494 = .ok (.iadd, 1) := by decide +kernel
theorem dL_law_495 : decode cL_law 495 = .ok (.iaload, 1) := by decide +kernel
theorem dL_law_496 : decode cL_law 496 = .ok (.aload_n 0, 1) := by decide +kernel
theorem dL_law_497 : decode cL_law 497 = .ok (.iload_n 3, 1) := by decide +kernel
theorem dL_law_498 : decode cL_law 498 = .ok (.iconst 3, 1) := by decide +kernel
theorem dL_law_499 : decode cL_law 499 = .ok (.iadd, 1) := by decide +kernel
theorem dL_law_500 : decode cL_law 500 = .ok (.iaload, 1) := by decide +kernel
theorem dL_law_501 : decode cL_law 501 = .ok (.invokevirtual 61, 3) := by decide +kernel
theorem dL_law_504 : decode cL_law 504 = .ok (.aload_n 2, 1) := by decide +kernel
theorem dL_law_505 : decode cL_law 505 = .ok (.aload_n 0, 1) := by decide +kernel
theorem dL_law_506 : decode cL_law 506 = .ok (.iload_n 3, 1) := by decide +kernel
theorem dL_law_507 : decode cL_law 507 = .ok (.iconst 1, 1) := by decide +kernel
theorem dL_law_508 : decode cL_law 508 = .ok (.iadd, 1) := by decide +kernel
theorem dL_law_509 : decode cL_law 509 = .ok (.iaload, 1) := by decide +kernel
theorem dL_law_510 : decode cL_law 510 = .ok (.aload_n 0, 1) := by decide +kernel
theorem dL_law_511 : decode cL_law 511 = .ok (.iload_n 3, 1) := by decide +kernel
theorem dL_law_512 : decode cL_law 512 = .ok (.iconst 2, 1) := by decide +kernel
theorem dL_law_513 : decode cL_law 513 = .ok (.iadd, 1) := by decide +kernel
theorem dL_law_514 : decode cL_law 514 = .ok (.iaload, 1) := by decide +kernel
theorem dL_law_515 : decode cL_law 515 = .ok (.aload_n 0, 1) := by decide +kernel
theorem dL_law_516 : decode cL_law 516 = .ok (.iload_n 3, 1) := by decide +kernel
theorem dL_law_517 : decode cL_law 517 = .ok (.iconst 3, 1) := by decide +kernel
theorem dL_law_518 : decode cL_law 518 = .ok (.iadd, 1) := by decide +kernel
theorem dL_law_519 : decode cL_law 519 = .ok (.iaload, 1) := by decide +kernel
theorem dL_law_520 : decode cL_law 520 = .ok (.invokevirtual 64, 3) := by decide +kernel
theorem dL_law_523 : decode cL_law 523 = .ok (.if_icmp .eq 344, 3) := by decide +kernel
theorem dL_law_526 : decode cL_law 526 = .ok (.iconst 0, 1) := by decide +kernel
theorem dL_law_527 : decode cL_law 527 = .ok (.ireturn, 1) := by decide +kernel
theorem dL_law_528 : decode cL_law 528 = .ok (.aload_n 1, 1) := by decide +kernel
theorem dL_law_529 : decode cL_law 529 = .ok (.aload_n 0, 1) := by decide +kernel
theorem dL_law_530 : decode cL_law 530 = .ok (.iload_n 3, 1) := by decide +kernel
theorem dL_law_531 : decode cL_law 531 = .ok (.iconst 1, 1) := by decide +kernel
theorem dL_law_532 : decode cL_law 532 = .ok (.iadd, 1) := by decide +kernel
theorem dL_law_533 : decode cL_law 533 = .ok (.iaload, 1) := by decide +kernel
theorem dL_law_534 : decode cL_law 534 = .ok (.aload_n 0, 1) := by decide +kernel
theorem dL_law_535 : decode cL_law 535 = .ok (.iload_n 3, 1) := by decide +kernel
theorem dL_law_536 : decode cL_law 536 = .ok (.iconst 2, 1) := by decide +kernel
theorem dL_law_537 : decode cL_law 537 = .ok (.iadd, 1) := by decide +kernel
theorem dL_law_538 : decode cL_law 538 = .ok (.iaload, 1) := by decide +kernel
theorem dL_law_539 : decode cL_law 539 = .ok (.invokevirtual 65, 3) := by decide +kernel
theorem dL_law_542 : decode cL_law 542 = .ok (.aload_n 2, 1) := by decide +kernel
theorem dL_law_543 : decode cL_law 543 = .ok (.aload_n 0, 1) := by decide +kernel
theorem dL_law_544 : decode cL_law 544 = .ok (.iload_n 3, 1) := by decide +kernel
theorem dL_law_545 : decode cL_law 545 = .ok (.iconst 1, 1) := by decide +kernel
theorem dL_law_546 : decode cL_law 546 = .ok (.iadd, 1) := by decide +kernel
theorem dL_law_547 : decode cL_law 547 = .ok (.iaload, 1) := by decide +kernel
theorem dL_law_548 : decode cL_law 548 = .ok (.aload_n 0, 1) := by decide +kernel
theorem dL_law_549 : decode cL_law 549 = .ok (.iload_n 3, 1) := by decide +kernel
theorem dL_law_550 : decode cL_law 550 = .ok (.iconst 2, 1) := by decide +kernel
theorem dL_law_551 : decode cL_law 551 = .ok (.iadd, 1) := by decide +kernel
theorem dL_law_552 : decode cL_law 552 = .ok (.iaload, 1) := by decide +kernel
theorem dL_law_553 : decode cL_law 553 = .ok (.invokevirtual 68, 3) := by decide +kernel
theorem dL_law_556 : decode cL_law 556 = .ok (.if_icmp .eq 311, 3) := by decide +kernel
theorem dL_law_559 : decode cL_law 559 = .ok (.iconst 0, 1) := by decide +kernel
theorem dL_law_560 : decode cL_law 560 = .ok (.ireturn, 1) := by decide +kernel
theorem dL_law_561 : decode cL_law 561 = .ok (.aload_n 1, 1) := by decide +kernel
theorem dL_law_562 : decode cL_law 562 = .ok (.aload_n 0, 1) := by decide +kernel
theorem dL_law_563 : decode cL_law 563 = .ok (.iload_n 3, 1) := by decide +kernel
theorem dL_law_564 : decode cL_law 564 = .ok (.iconst 1, 1) := by decide +kernel
theorem dL_law_565 : decode cL_law 565 = .ok (.iadd, 1) := by decide +kernel
theorem dL_law_566 : decode cL_law 566 = .ok (.iaload, 1) := by decide +kernel
theorem dL_law_567 : decode cL_law 567 = .ok (.invokevirtual 69, 3) := by decide +kernel
theorem dL_law_570 : decode cL_law 570 = .ok (.aload_n 2, 1) := by decide +kernel
theorem dL_law_571 : decode cL_law 571 = .ok (.aload_n 0, 1) := by decide +kernel
theorem dL_law_572 : decode cL_law 572 = .ok (.iload_n 3, 1) := by decide +kernel
theorem dL_law_573 : decode cL_law 573 = .ok (.iconst 1, 1) := by decide +kernel
theorem dL_law_574 : decode cL_law 574 = .ok (.iadd, 1) := by decide +kernel
theorem dL_law_575 : decode cL_law 575 = .ok (.iaload, 1) := by decide +kernel
theorem dL_law_576 : decode cL_law 576 = .ok (.invokevirtual 72, 3) := by decide +kernel
theorem dL_law_579 : decode cL_law 579 = .ok (.if_icmp .eq 288, 3) := by decide +kernel
theorem dL_law_582 : decode cL_law 582 = .ok (.iconst 0, 1) := by decide +kernel
theorem dL_law_583 : decode cL_law 583 = .ok (.ireturn, 1) := by decide +kernel
theorem dL_law_584 : decode cL_law 584 = .ok (.aload_n 1, 1) := by decide +kernel
theorem dL_law_585 : decode cL_law 585 = .ok (.aload_n 0, 1) := by decide +kernel
theorem dL_law_586 : decode cL_law 586 = .ok (.iload_n 3, 1) := by decide +kernel
theorem dL_law_587 : decode cL_law 587 = .ok (.iconst 1, 1) := by decide +kernel
theorem dL_law_588 : decode cL_law 588 = .ok (.iadd, 1) := by decide +kernel
theorem dL_law_589 : decode cL_law 589 = .ok (.iaload, 1) := by decide +kernel
theorem dL_law_590 : decode cL_law 590 = .ok (.invokevirtual 73, 3) := by decide +kernel
theorem dL_law_593 : decode cL_law 593 = .ok (.aload_n 2, 1) := by decide +kernel
theorem dL_law_594 : decode cL_law 594 = .ok (.aload_n 0, 1) := by decide +kernel
theorem dL_law_595 : decode cL_law 595 = .ok (.iload_n 3, 1) := by decide +kernel
theorem dL_law_596 : decode cL_law 596 = .ok (.iconst 1, 1) := by decide +kernel
theorem dL_law_597 : decode cL_law 597 = .ok (.iadd, 1) := by decide +kernel
theorem dL_law_598 : decode cL_law 598 = .ok (.iaload, 1) := by decide +kernel
theorem dL_law_599 : decode cL_law 599 = .ok (.invokevirtual 76, 3) := by decide +kernel
theorem dL_law_602 : decode cL_law 602 = .ok (.if_icmp .eq 265, 3) := by decide +kernel
theorem dL_law_605 : decode cL_law 605 = .ok (.iconst 0, 1) := by decide +kernel
theorem dL_law_606 : decode cL_law 606 = .ok (.ireturn, 1) := by decide +kernel
theorem dL_law_607 : decode cL_law 607 = .ok (.aload_n 1, 1) := by decide +kernel
theorem dL_law_608 : decode cL_law 608 = .ok (.aload_n 0, 1) := by decide +kernel
theorem dL_law_609 : decode cL_law 609 = .ok (.iload_n 3, 1) := by decide +kernel
theorem dL_law_610 : decode cL_law 610 = .ok (.iconst 1, 1) := by decide +kernel
theorem dL_law_611 : decode cL_law 611 = .ok (.iadd, 1) := by decide +kernel
theorem dL_law_612 : decode cL_law 612 = .ok (.iaload, 1) := by decide +kernel
theorem dL_law_613 : decode cL_law 613 = .ok (.ifCond .eq 7, 3) := by decide +kernel
theorem dL_law_616 : decode cL_law 616 = .ok (.iconst 1, 1) := by decide +kernel
theorem dL_law_617 : decode cL_law 617 = .ok (.goto 4, 3) := by decide +kernel
theorem dL_law_620 : decode cL_law 620 = .ok (.iconst 0, 1) := by decide +kernel
theorem dL_law_621 : decode cL_law 621 = .ok (.invokevirtual 77, 3) := by decide +kernel
theorem dL_law_624 : decode cL_law 624 = .ok (.aload_n 2, 1) := by decide +kernel
theorem dL_law_625 : decode cL_law 625 = .ok (.aload_n 0, 1) := by decide +kernel
theorem dL_law_626 : decode cL_law 626 = .ok (.iload_n 3, 1) := by decide +kernel
theorem dL_law_627 : decode cL_law 627 = .ok (.iconst 1, 1) := by decide +kernel
theorem dL_law_628 : decode cL_law 628 = .ok (.iadd, 1) := by decide +kernel
theorem dL_law_629 : decode cL_law 629 = .ok (.iaload, 1) := by decide +kernel
theorem dL_law_630 : decode cL_law 630 = .ok (.ifCond .eq 7, 3) := by decide +kernel
theorem dL_law_633 : decode cL_law 633 = .ok (.iconst 1, 1) := by decide +kernel
theorem dL_law_634 : decode cL_law 634 = .ok (.goto 4, 3) := by decide +kernel
theorem dL_law_637 : decode cL_law 637 = .ok (.iconst 0, 1) := by decide +kernel
theorem dL_law_638 : decode cL_law 638 = .ok (.invokevirtual 81, 3) := by decide +kernel
theorem dL_law_641 : decode cL_law 641 = .ok (.if_icmp .eq 226, 3) := by decide +kernel
theorem dL_law_644 : decode cL_law 644 = .ok (.iconst 0, 1) := by decide +kernel
theorem dL_law_645 : decode cL_law 645 = .ok (.ireturn, 1) := by decide +kernel
theorem dL_law_646 : decode cL_law 646 = .ok (.aload_n 1, 1) := by decide +kernel
theorem dL_law_647 : decode cL_law 647 = .ok (.aload_n 0, 1) := by decide +kernel
theorem dL_law_648 : decode cL_law 648 = .ok (.iload_n 3, 1) := by decide +kernel
theorem dL_law_649 : decode cL_law 649 = .ok (.iconst 1, 1) := by decide +kernel
theorem dL_law_650 : decode cL_law 650 = .ok (.iadd, 1) := by decide +kernel
theorem dL_law_651 : decode cL_law 651 = .ok (.iaload, 1) := by decide +kernel
theorem dL_law_652 : decode cL_law 652 = .ok (.aload_n 0, 1) := by decide +kernel
theorem dL_law_653 : decode cL_law 653 = .ok (.iload_n 3, 1) := by decide +kernel
theorem dL_law_654 : decode cL_law 654 = .ok (.iconst 2, 1) := by decide +kernel
theorem dL_law_655 : decode cL_law 655 = .ok (.iadd, 1) := by decide +kernel
theorem dL_law_656 : decode cL_law 656 = .ok (.iaload, 1) := by decide +kernel
theorem dL_law_657 : decode cL_law 657 = .ok (.invokevirtual 82, 3) := by decide +kernel
theorem dL_law_660 : decode cL_law 660 = .ok (.aload_n 2, 1) := by decide +kernel
theorem dL_law_661 : decode cL_law 661 = .ok (.aload_n 0, 1) := by decide +kernel
theorem dL_law_662 : decode cL_law 662 = .ok (.iload_n 3, 1) := by decide +kernel
theorem dL_law_663 : decode cL_law 663 = .ok (.iconst 1, 1) := by decide +kernel
theorem dL_law_664 : decode cL_law 664 = .ok (.iadd, 1) := by decide +kernel
theorem dL_law_665 : decode cL_law 665 = .ok (.iaload, 1) := by decide +kernel
theorem dL_law_666 : decode cL_law 666 = .ok (.aload_n 0, 1) := by decide +kernel
theorem dL_law_667 : decode cL_law 667 = .ok (.iload_n 3, 1) := by decide +kernel
theorem dL_law_668 : decode cL_law 668 = .ok (.iconst 2, 1) := by decide +kernel
theorem dL_law_669 : decode cL_law 669 = .ok (.iadd, 1) := by decide +kernel
theorem dL_law_670 : decode cL_law 670 = .ok (.iaload, 1) := by decide +kernel
theorem dL_law_671 : decode cL_law 671 = .ok (.invokevirtual 85, 3) := by decide +kernel
theorem dL_law_674 : decode cL_law 674 = .ok (.if_icmp .eq 193, 3) := by decide +kernel
theorem dL_law_677 : decode cL_law 677 = .ok (.iconst 0, 1) := by decide +kernel
theorem dL_law_678 : decode cL_law 678 = .ok (.ireturn, 1) := by decide +kernel
theorem dL_law_679 : decode cL_law 679 = .ok (.aload_n 1, 1) := by decide +kernel
theorem dL_law_680 : decode cL_law 680 = .ok (.aload_n 0, 1) := by decide +kernel
theorem dL_law_681 : decode cL_law 681 = .ok (.iload_n 3, 1) := by decide +kernel
theorem dL_law_682 : decode cL_law 682 = .ok (.iconst 1, 1) := by decide +kernel
theorem dL_law_683 : decode cL_law 683 = .ok (.iadd, 1) := by decide +kernel
theorem dL_law_684 : decode cL_law 684 = .ok (.iaload, 1) := by decide +kernel
theorem dL_law_685 : decode cL_law 685 = .ok (.aload_n 0, 1) := by decide +kernel
theorem dL_law_686 : decode cL_law 686 = .ok (.iload_n 3, 1) := by decide +kernel
theorem dL_law_687 : decode cL_law 687 = .ok (.iconst 2, 1) := by decide +kernel
theorem dL_law_688 : decode cL_law 688 = .ok (.iadd, 1) := by decide +kernel
theorem dL_law_689 : decode cL_law 689 = .ok (.iaload, 1) := by decide +kernel
theorem dL_law_690 : decode cL_law 690 = .ok (.aload_n 0, 1) := by decide +kernel
theorem dL_law_691 : decode cL_law 691 = .ok (.iload_n 3, 1) := by decide +kernel
theorem dL_law_692 : decode cL_law 692 = .ok (.iconst 3, 1) := by decide +kernel
theorem dL_law_693 : decode cL_law 693 = .ok (.iadd, 1) := by decide +kernel
theorem dL_law_694 : decode cL_law 694 = .ok (.iaload, 1) := by decide +kernel
theorem dL_law_695 : decode cL_law 695 = .ok (.invokevirtual 86, 3) := by decide +kernel
theorem dL_law_698 : decode cL_law 698 = .ok (.aload_n 2, 1) := by decide +kernel
theorem dL_law_699 : decode cL_law 699 = .ok (.aload_n 0, 1) := by decide +kernel
theorem dL_law_700 : decode cL_law 700 = .ok (.iload_n 3, 1) := by decide +kernel
theorem dL_law_701 : decode cL_law 701 = .ok (.iconst 1, 1) := by decide +kernel
theorem dL_law_702 : decode cL_law 702 = .ok (.iadd, 1) := by decide +kernel
theorem dL_law_703 : decode cL_law 703 = .ok (.iaload, 1) := by decide +kernel
theorem dL_law_704 : decode cL_law 704 = .ok (.aload_n 0, 1) := by decide +kernel
theorem dL_law_705 : decode cL_law 705 = .ok (.iload_n 3, 1) := by decide +kernel
theorem dL_law_706 : decode cL_law 706 = .ok (.iconst 2, 1) := by decide +kernel
theorem dL_law_707 : decode cL_law 707 = .ok (.iadd, 1) := by decide +kernel
theorem dL_law_708 : decode cL_law 708 = .ok (.iaload, 1) := by decide +kernel
theorem dL_law_709 : decode cL_law 709 = .ok (.aload_n 0, 1) := by decide +kernel
theorem dL_law_710 : decode cL_law 710 = .ok (.iload_n 3, 1) := by decide +kernel
theorem dL_law_711 : decode cL_law 711 = .ok (.iconst 3, 1) := by decide +kernel
theorem dL_law_712 : decode cL_law 712 = .ok (.iadd, 1) := by decide +kernel
theorem dL_law_713 : decode cL_law 713 = .ok (.iaload, 1) := by decide +kernel
theorem dL_law_714 : decode cL_law 714 = .ok (.invokevirtual 89, 3) := by decide +kernel
theorem dL_law_717 : decode cL_law 717 = .ok (.if_icmp .eq 150, 3) := by decide +kernel
theorem dL_law_720 : decode cL_law 720 = .ok (.iconst 0, 1) := by decide +kernel
theorem dL_law_721 : decode cL_law 721 = .ok (.ireturn, 1) := by decide +kernel
theorem dL_law_722 : decode cL_law 722 = .ok (.aload_n 1, 1) := by decide +kernel
theorem dL_law_723 : decode cL_law 723 = .ok (.invokevirtual 90, 3) := by decide +kernel
theorem dL_law_726 : decode cL_law 726 = .ok (.aload_n 2, 1) := by decide +kernel
theorem dL_law_727 : decode cL_law 727 = .ok (.invokevirtual 93, 3) := by decide +kernel
theorem dL_law_730 : decode cL_law 730 = .ok (.if_icmp .eq 137, 3) := by decide +kernel
theorem dL_law_733 : decode cL_law 733 = .ok (.iconst 0, 1) := by decide +kernel
theorem dL_law_734 : decode cL_law 734 = .ok (.ireturn, 1) := by decide +kernel
theorem dL_law_735 : decode cL_law 735 = .ok (.aload_n 1, 1) := by decide +kernel
theorem dL_law_736 : decode cL_law 736 = .ok (.aload_n 0, 1) := by decide +kernel
theorem dL_law_737 : decode cL_law 737 = .ok (.iload_n 3, 1) := by decide +kernel
theorem dL_law_738 : decode cL_law 738 = .ok (.iconst 1, 1) := by decide +kernel
theorem dL_law_739 : decode cL_law 739 = .ok (.iadd, 1) := by decide +kernel
theorem dL_law_740 : decode cL_law 740 = .ok (.iaload, 1) := by decide +kernel
theorem dL_law_741 : decode cL_law 741 = .ok (.invokevirtual 94, 3) := by decide +kernel
theorem dL_law_744 : decode cL_law 744 = .ok (.aload_n 2, 1) := by decide +kernel
theorem dL_law_745 : decode cL_law 745 = .ok (.aload_n 0, 1) := by decide +kernel
theorem dL_law_746 : decode cL_law 746 = .ok (.iload_n 3, 1) := by decide +kernel
theorem dL_law_747 : decode cL_law 747 = .ok (.iconst 1, 1) := by decide +kernel
theorem dL_law_748 : decode cL_law 748 = .ok (.iadd, 1) := by decide +kernel
theorem dL_law_749 : decode cL_law 749 = .ok (.iaload, 1) := by decide +kernel
theorem dL_law_750 : decode cL_law 750 = .ok (.invokevirtual 97, 3) := by decide +kernel
theorem dL_law_753 : decode cL_law 753 = .ok (.if_icmp .eq 114, 3) := by decide +kernel
theorem dL_law_756 : decode cL_law 756 = .ok (.iconst 0, 1) := by decide +kernel
theorem dL_law_757 : decode cL_law 757 = .ok (.ireturn, 1) := by decide +kernel
theorem dL_law_758 : decode cL_law 758 = .ok (.aload_n 1, 1) := by decide +kernel
theorem dL_law_759 : decode cL_law 759 = .ok (.invokevirtual 98, 3) := by decide +kernel
theorem dL_law_762 : decode cL_law 762 = .ok (.aload_n 2, 1) := by decide +kernel
theorem dL_law_763 : decode cL_law 763 = .ok (.invokevirtual 101, 3) := by decide +kernel
theorem dL_law_766 : decode cL_law 766 = .ok (.if_icmp .eq 101, 3) := by decide +kernel
theorem dL_law_769 : decode cL_law 769 = .ok (.iconst 0, 1) := by decide +kernel
theorem dL_law_770 : decode cL_law 770 = .ok (.ireturn, 1) := by decide +kernel
theorem dL_law_771 : decode cL_law 771 = .ok (.aload_n 1, 1) := by decide +kernel
theorem dL_law_772 : decode cL_law 772 = .ok (.aload_n 0, 1) := by decide +kernel
theorem dL_law_773 : decode cL_law 773 = .ok (.iload_n 3, 1) := by decide +kernel
theorem dL_law_774 : decode cL_law 774 = .ok (.iconst 1, 1) := by decide +kernel
theorem dL_law_775 : decode cL_law 775 = .ok (.iadd, 1) := by decide +kernel
theorem dL_law_776 : decode cL_law 776 = .ok (.iaload, 1) := by decide +kernel
theorem dL_law_777 : decode cL_law 777 = .ok (.aload_n 0, 1) := by decide +kernel
theorem dL_law_778 : decode cL_law 778 = .ok (.iload_n 3, 1) := by decide +kernel
theorem dL_law_779 : decode cL_law 779 = .ok (.iconst 2, 1) := by decide +kernel
theorem dL_law_780 : decode cL_law 780 = .ok (.iadd, 1) := by decide +kernel
theorem dL_law_781 : decode cL_law 781 = .ok (.iaload, 1) := by decide +kernel
theorem dL_law_782 : decode cL_law 782 = .ok (.invokevirtual 102, 3) := by decide +kernel
theorem dL_law_785 : decode cL_law 785 = .ok (.aload_n 2, 1) := by decide +kernel
theorem dL_law_786 : decode cL_law 786 = .ok (.aload_n 0, 1) := by decide +kernel
theorem dL_law_787 : decode cL_law 787 = .ok (.iload_n 3, 1) := by decide +kernel
theorem dL_law_788 : decode cL_law 788 = .ok (.iconst 1, 1) := by decide +kernel
theorem dL_law_789 : decode cL_law 789 = .ok (.iadd, 1) := by decide +kernel
theorem dL_law_790 : decode cL_law 790 = .ok (.iaload, 1) := by decide +kernel
theorem dL_law_791 : decode cL_law 791 = .ok (.aload_n 0, 1) := by decide +kernel
theorem dL_law_792 : decode cL_law 792 = .ok (.iload_n 3, 1) := by decide +kernel
theorem dL_law_793 : decode cL_law 793 = .ok (.iconst 2, 1) := by decide +kernel
theorem dL_law_794 : decode cL_law 794 = .ok (.iadd, 1) := by decide +kernel
theorem dL_law_795 : decode cL_law 795 = .ok (.iaload, 1) := by decide +kernel
theorem dL_law_796 : decode cL_law 796 = .ok (.invokevirtual 105, 3) := by decide +kernel
theorem dL_law_799 : decode cL_law 799 = .ok (.if_icmp .eq 68, 3) := by decide +kernel
theorem dL_law_802 : decode cL_law 802 = .ok (.iconst 0, 1) := by decide +kernel
theorem dL_law_803 : decode cL_law 803 = .ok (.ireturn, 1) := by decide +kernel
theorem dL_law_804 : decode cL_law 804 = .ok (.aload_n 1, 1) := by decide +kernel
theorem dL_law_805 : decode cL_law 805 = .ok (.invokevirtual 106, 3) := by decide +kernel
theorem dL_law_808 : decode cL_law 808 = .ok (.aload_n 2, 1) := by decide +kernel
theorem dL_law_809 : decode cL_law 809 = .ok (.invokevirtual 109, 3) := by decide +kernel
theorem dL_law_812 : decode cL_law 812 = .ok (.if_icmp .eq 55, 3) := by decide +kernel
theorem dL_law_815 : decode cL_law 815 = .ok (.iconst 0, 1) := by decide +kernel
theorem dL_law_816 : decode cL_law 816 = .ok (.ireturn, 1) := by decide +kernel
theorem dL_law_817 : decode cL_law 817 = .ok (.aload_n 1, 1) := by decide +kernel
theorem dL_law_818 : decode cL_law 818 = .ok (.aload_n 0, 1) := by decide +kernel
theorem dL_law_819 : decode cL_law 819 = .ok (.iload_n 3, 1) := by decide +kernel
theorem dL_law_820 : decode cL_law 820 = .ok (.iconst 1, 1) := by decide +kernel
theorem dL_law_821 : decode cL_law 821 = .ok (.iadd, 1) := by decide +kernel
theorem dL_law_822 : decode cL_law 822 = .ok (.iaload, 1) := by decide +kernel
theorem dL_law_823 : decode cL_law 823 = .ok (.invokevirtual 110, 3) := by decide +kernel
theorem dL_law_826 : decode cL_law 826 = .ok (.aload_n 2, 1) := by decide +kernel
theorem dL_law_827 : decode cL_law 827 = .ok (.aload_n 0, 1) := by decide +kernel
theorem dL_law_828 : decode cL_law 828 = .ok (.iload_n 3, 1) := by decide +kernel
theorem dL_law_829 : decode cL_law 829 = .ok (.iconst 1, 1) := by decide +kernel
theorem dL_law_830 : decode cL_law 830 = .ok (.iadd, 1) := by decide +kernel
theorem dL_law_831 : decode cL_law 831 = .ok (.iaload, 1) := by decide +kernel
theorem dL_law_832 : decode cL_law 832 = .ok (.invokevirtual 113, 3) := by decide +kernel
theorem dL_law_835 : decode cL_law 835 = .ok (.if_icmp .eq 32, 3) := by decide +kernel
theorem dL_law_838 : decode cL_law 838 = .ok (.iconst 0, 1) := by decide +kernel
theorem dL_law_839 : decode cL_law 839 = .ok (.ireturn, 1) := by decide +kernel
theorem dL_law_840 : decode cL_law 840 = .ok (.aload_n 1, 1) := by decide +kernel
theorem dL_law_841 : decode cL_law 841 = .ok (.invokevirtual 114, 3) := by decide +kernel
theorem dL_law_844 : decode cL_law 844 = .ok (.aload_n 2, 1) := by decide +kernel
theorem dL_law_845 : decode cL_law 845 = .ok (.invokevirtual 117, 3) := by decide +kernel
theorem dL_law_848 : decode cL_law 848 = .ok (.if_icmp .eq 19, 3) := by decide +kernel
theorem dL_law_851 : decode cL_law 851 = .ok (.iconst 0, 1) := by decide +kernel
theorem dL_law_852 : decode cL_law 852 = .ok (.ireturn, 1) := by decide +kernel
theorem dL_law_853 : decode cL_law 853 = .ok (.aload_n 1, 1) := by decide +kernel
theorem dL_law_854 : decode cL_law 854 = .ok (.invokevirtual 118, 3) := by decide +kernel
theorem dL_law_857 : decode cL_law 857 = .ok (.aload_n 2, 1) := by decide +kernel
theorem dL_law_858 : decode cL_law 858 = .ok (.invokevirtual 122, 3) := by decide +kernel
theorem dL_law_861 : decode cL_law 861 = .ok (.lcmp, 1) := by decide +kernel
theorem dL_law_862 : decode cL_law 862 = .ok (.ifCond .eq 5, 3) := by decide +kernel
theorem dL_law_865 : decode cL_law 865 = .ok (.iconst 0, 1) := by decide +kernel
theorem dL_law_866 : decode cL_law 866 = .ok (.ireturn, 1) := by decide +kernel
theorem dL_law_867 : decode cL_law 867 = .ok (.iinc 3 4, 3) := by decide +kernel
theorem dL_law_870 : decode cL_law 870 = .ok (.goto (-852), 3) := by decide +kernel
theorem dL_law_873 : decode cL_law 873 = .ok (.iconst 1, 1) := by decide +kernel
theorem dL_law_874 : decode cL_law 874 = .ok (.ireturn, 1) := by decide +kernel
