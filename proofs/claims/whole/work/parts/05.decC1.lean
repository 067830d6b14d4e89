theorem dX0_init_0 : decode cX0_init 0 = .ok (.aload_n 0, 1) := by decide +kernel
theorem dX0_init_1 : decode cX0_init 1 = .ok (.invokespecial 3, 3) := by decide +kernel
theorem dX0_init_4 : decode cX0_init 4 = .ok (.aload_n 0, 1) := by decide +kernel
theorem dX0_init_5 : decode cX0_init 5 = .ok (.new 9, 3) := by decide +kernel
theorem dX0_init_8 : decode cX0_init 8 = .ok (.dup, 1) := by decide +kernel
theorem dX0_init_9 : decode cX0_init 9 = .ok (.sipush 781, 3) := by decide +kernel
theorem dX0_init_12 : decode cX0_init 12 = .ok (.invokespecial 13, 3) := by decide +kernel
theorem dX0_init_15 : decode cX0_init 15 = .ok (.putfield 16, 3) := by decide +kernel
theorem dX0_init_18 : decode cX0_init 18 = .ok (.aload_n 0, 1) := by decide +kernel
theorem dX0_init_19 : decode cX0_init 19 = .ok (.iconst 0, 1) := by decide +kernel
theorem dX0_init_20 : decode cX0_init 20 = .ok (.putfield 20, 3) := by decide +kernel
theorem dX0_init_23 : decode cX0_init 23 = .ok (.aload_n 0, 1) := by decide +kernel
theorem dX0_init_24 : decode cX0_init 24 = .ok (.bipush (-9), 2) := by decide +kernel
theorem dX0_init_26 : decode cX0_init 26 = .ok (.putfield 24, 3) := by decide +kernel
theorem dX0_init_29 : decode cX0_init 29 = .ok (.return_, 1) := by decide +kernel
theorem dX0_forget_0 : decode cX0_forget 0 = .ok (.aload_n 0, 1) := by decide +kernel
theorem dX0_forget_1 : decode cX0_forget 1 = .ok (.iconst 0, 1) := by decide +kernel
theorem dX0_forget_2 : decode cX0_forget 2 = .ok (.putfield 20, 3) := by decide +kernel
theorem dX0_forget_5 : decode cX0_forget 5 = .ok (.return_, 1) := by decide +kernel
theorem dX0_shortest_0 : decode cX0_shortest 0 = .ok (.aload_n 0, 1) := by decide +kernel
theorem dX0_shortest_1 : decode cX0_shortest 1 = .ok (.getfield 20, 3) := by decide +kernel
theorem dX0_shortest_4 : decode cX0_shortest 4 = .ok (.ifCond .ne 18, 3) := by decide +kernel
theorem dX0_shortest_7 : decode cX0_shortest 7 = .ok (.aload_n 0, 1) := by decide +kernel
theorem dX0_shortest_8 : decode cX0_shortest 8 = .ok (.aload_n 0, 1) := by decide +kernel
theorem dX0_shortest_9 : decode cX0_shortest 9 = .ok (.aload_n 1, 1) := by decide +kernel
theorem dX0_shortest_10 : decode cX0_shortest 10 = .ok (.aload_n 2, 1) := by decide +kernel
theorem dX0_shortest_11 : decode cX0_shortest 11 = .ok (.invokevirtual 28, 3) := by decide +kernel
theorem dX0_shortest_14 : decode cX0_shortest 14 = .ok (.putfield 24, 3) := by decide +kernel
theorem dX0_shortest_17 : decode cX0_shortest 17 = .ok (.aload_n 0, 1) := by decide +kernel
theorem dX0_shortest_18 : decode cX0_shortest 18 = .ok (.iconst 1, 1) := by decide +kernel
theorem dX0_shortest_19 : decode cX0_shortest 19 = .ok (.putfield 20, 3) := by decide +kernel
theorem dX0_shortest_22 : decode cX0_shortest 22 = .ok (.aload_n 0, 1) := by decide +kernel
theorem dX0_shortest_23 : decode cX0_shortest 23 = .ok (.getfield 24, 3) := by decide +kernel
theorem dX0_shortest_26 : decode cX0_shortest 26 = .ok (.ireturn, 1) := by decide +kernel
theorem dX0_search_0 : decode cX0_search 0 = .ok (.iconst 0, 1) := by decide +kernel
theorem dX0_search_1 : decode cX0_search 1 = .ok (.istore_n 3, 1) := by decide +kernel
theorem dX0_search_2 : decode cX0_search 2 = .ok (.iload_n 3, 1) := by decide +kernel
theorem dX0_search_3 : decode cX0_search 3 = .ok (.sipush 781, 3) := by decide +kernel
theorem dX0_search_6 : decode cX0_search 6 = .ok (.if_icmp .ge 72, 3) := by decide +kernel
theorem dX0_search_9 : decode cX0_search 9 = .ok (.aload_n 0, 1) := by decide +kernel
theorem dX0_search_10 : decode cX0_search 10 = .ok (.iload_n 3, 1) := by decide +kernel
theorem dX0_search_11 : decode cX0_search 11 = .ok (.invokevirtual 32, 3) := by decide +kernel
theorem dX0_search_14 : decode cX0_search 14 = .ok (.istore 4, 2) := by decide +kernel
theorem dX0_search_16 : decode cX0_search 16 = .ok (.aload_n 0, 1) := by decide +kernel
theorem dX0_search_17 : decode cX0_search 17 = .ok (.aload_n 2, 1) := by decide +kernel
theorem dX0_search_18 : decode cX0_search 18 = .ok (.invokevirtual 36, 3) := by decide +kernel
theorem dX0_search_21 : decode cX0_search 21 = .ok (.iload 4, 2) := by decide +kernel
theorem dX0_search_23 : decode cX0_search 23 = .ok (.invokevirtual 42, 3) := by decide +kernel
theorem dX0_search_26 : decode cX0_search 26 = .ok (.ifCond .eq 46, 3) := by decide +kernel
theorem dX0_search_29 : decode cX0_search 29 = .ok (.aload_n 0, 1) := by decide +kernel
theorem dX0_search_30 : decode cX0_search 30 = .ok (.iload 4, 2) := by decide +kernel
theorem dX0_search_32 : decode cX0_search 32 = .ok (.invokevirtual 46, 3) := by decide +kernel
theorem dX0_search_35 : decode cX0_search 35 = .ok (.aload_n 0, 1) := by decide +kernel
theorem dX0_search_36 : decode cX0_search 36 = .ok (.getfield 16, 3) := by decide +kernel
theorem dX0_search_39 : decode cX0_search 39 = .ok (.aload_n 1, 1) := by decide +kernel
theorem dX0_search_40 : decode cX0_search 40 = .ok (.aload_n 2, 1) := by decide +kernel
theorem dX0_search_41 : decode cX0_search 41 = .ok (.iconst 0, 1) := by decide +kernel
theorem dX0_search_42 : decode cX0_search 42 = .ok (.iload 4, 2) := by decide +kernel
theorem dX0_search_44 : decode cX0_search 44 = .ok (.invokevirtual 49, 3) := by decide +kernel
theorem dX0_search_47 : decode cX0_search 47 = .ok (.aload_n 0, 1) := by decide +kernel
theorem dX0_search_48 : decode cX0_search 48 = .ok (.getfield 16, 3) := by decide +kernel
theorem dX0_search_51 : decode cX0_search 51 = .ok (.aload_n 1, 1) := by decide +kernel
theorem dX0_search_52 : decode cX0_search 52 = .ok (.invokevirtual 53, 3) := by decide +kernel
theorem dX0_search_55 : decode cX0_search 55 = .ok (.iconst 0, 1) := by decide +kernel
theorem dX0_search_56 : decode cX0_search 56 = .ok (.iload 4, 2) := by decide +kernel
theorem dX0_search_58 : decode cX0_search 58 = .ok (.invokevirtual 58, 3) := by decide +kernel
theorem dX0_search_61 : decode cX0_search 61 = .ok (.iconst 1, 1) := by decide +kernel
theorem dX0_search_62 : decode cX0_search 62 = .ok (.if_icmp .le 10, 3) := by decide +kernel
theorem dX0_search_65 : decode cX0_search 65 = .ok (.aload_n 0, 1) := by decide +kernel
theorem dX0_search_66 : decode cX0_search 66 = .ok (.iload 4, 2) := by decide +kernel
theorem dX0_search_68 : decode cX0_search 68 = .ok (.invokevirtual 62, 3) := by decide +kernel
theorem dX0_search_71 : decode cX0_search 71 = .ok (.ireturn, 1) := by decide +kernel
theorem dX0_search_72 : decode cX0_search 72 = .ok (.iinc 3 1, 3) := by decide +kernel
theorem dX0_search_75 : decode cX0_search 75 = .ok (.goto (-73), 3) := by decide +kernel
theorem dX0_search_78 : decode cX0_search 78 = .ok (.bipush (-9), 2) := by decide +kernel
theorem dX0_search_80 : decode cX0_search 80 = .ok (.ireturn, 1) := by decide +kernel
theorem dX0_spell_0 : decode cX0_spell 0 = .ok (.iconst 0, 1) := by decide +kernel
theorem dX0_spell_1 : decode cX0_spell 1 = .ok (.istore_n 2, 1) := by decide +kernel
theorem dX0_spell_2 : decode cX0_spell 2 = .ok (.iload_n 1, 1) := by decide +kernel
theorem dX0_spell_3 : decode cX0_spell 3 = .ok (.istore_n 3, 1) := by decide +kernel
theorem dX0_spell_4 : decode cX0_spell 4 = .ok (.iload_n 3, 1) := by decide +kernel
theorem dX0_spell_5 : decode cX0_spell 5 = .ok (.ifCond .le 20, 3) := by decide +kernel
theorem dX0_spell_8 : decode cX0_spell 8 = .ok (.iload_n 2, 1) := by decide +kernel
theorem dX0_spell_9 : decode cX0_spell 9 = .ok (.iconst 4, 1) := by decide +kernel
theorem dX0_spell_10 : decode cX0_spell 10 = .ok (.if_icmp .ge 15, 3) := by decide +kernel
theorem dX0_spell_13 : decode cX0_spell 13 = .ok (.iinc 2 1, 3) := by decide +kernel
theorem dX0_spell_16 : decode cX0_spell 16 = .ok (.iload_n 3, 1) := by decide +kernel
theorem dX0_spell_17 : decode cX0_spell 17 = .ok (.iconst 1, 1) := by decide +kernel
theorem dX0_spell_18 : decode cX0_spell 18 = .ok (.isub, 1) := by decide +kernel
theorem dX0_spell_19 : decode cX0_spell 19 = .ok (.iconst 5, 1) := by decide +kernel
theorem dX0_spell_20 : decode cX0_spell 20 = .ok (.idiv, 1) := by decide +kernel
theorem dX0_spell_21 : decode cX0_spell 21 = .ok (.istore_n 3, 1) := by decide +kernel
theorem dX0_spell_22 : decode cX0_spell 22 = .ok (.goto (-18), 3) := by decide +kernel
theorem dX0_spell_25 : decode cX0_spell 25 = .ok (.iload_n 1, 1) := by decide +kernel
theorem dX0_spell_26 : decode cX0_spell 26 = .ok (.istore_n 3, 1) := by decide +kernel
theorem dX0_spell_27 : decode cX0_spell 27 = .ok (.iload_n 2, 1) := by decide +kernel
theorem dX0_spell_28 : decode cX0_spell 28 = .ok (.iconst 1, 1) := by decide +kernel
theorem dX0_spell_29 : decode cX0_spell 29 = .ok (.isub, 1) := by decide +kernel
theorem dX0_spell_30 : decode cX0_spell 30 = .ok (.istore 4, 2) := by decide +kernel
theorem dX0_spell_32 : decode cX0_spell 32 = .ok (.iload 4, 2) := by decide +kernel
theorem dX0_spell_34 : decode cX0_spell 34 = .ok (.ifCond .lt 29, 3) := by decide +kernel
theorem dX0_spell_37 : decode cX0_spell 37 = .ok (.aload_n 0, 1) := by decide +kernel
theorem dX0_spell_38 : decode cX0_spell 38 = .ok (.getfield 16, 3) := by decide +kernel
theorem dX0_spell_41 : decode cX0_spell 41 = .ok (.iload 4, 2) := by decide +kernel
theorem dX0_spell_43 : decode cX0_spell 43 = .ok (.iload_n 3, 1) := by decide +kernel
theorem dX0_spell_44 : decode cX0_spell 44 = .ok (.iconst 1, 1) := by decide +kernel
theorem dX0_spell_45 : decode cX0_spell 45 = .ok (.isub, 1) := by decide +kernel
theorem dX0_spell_46 : decode cX0_spell 46 = .ok (.iconst 5, 1) := by decide +kernel
theorem dX0_spell_47 : decode cX0_spell 47 = .ok (.irem, 1) := by decide +kernel
theorem dX0_spell_48 : decode cX0_spell 48 = .ok (.invokevirtual 65, 3) := by decide +kernel
theorem dX0_spell_51 : decode cX0_spell 51 = .ok (.iload_n 3, 1) := by decide +kernel
theorem dX0_spell_52 : decode cX0_spell 52 = .ok (.iconst 1, 1) := by decide +kernel
theorem dX0_spell_53 : decode cX0_spell 53 = .ok (.isub, 1) := by decide +kernel
theorem dX0_spell_54 : decode cX0_spell 54 = .ok (.iconst 5, 1) := by decide +kernel
theorem dX0_spell_55 : decode cX0_spell 55 = .ok (.idiv, 1) := by decide +kernel
theorem dX0_spell_56 : decode cX0_spell 56 = .ok (.istore_n 3, 1) := by decide +kernel
theorem dX0_spell_57 : decode cX0_spell 57 = .ok (.iinc 4 (-1), 3) := by decide +kernel
theorem dX0_spell_60 : decode cX0_spell 60 = .ok (.goto (-28), 3) := by decide +kernel
theorem dX0_spell_63 : decode cX0_spell 63 = .ok (.iload_n 2, 1) := by decide +kernel
theorem dX0_spell_64 : decode cX0_spell 64 = .ok (.ireturn, 1) := by decide +kernel
theorem dX0_isOver_0 : decode cX0_isOver 0 = .ok (.iconst 0, 1) := by decide +kernel
theorem dX0_isOver_1 : decode cX0_isOver 1 = .ok (.istore_n 3, 1) := by decide +kernel
theorem dX0_isOver_2 : decode cX0_isOver 2 = .ok (.iload_n 3, 1) := by decide +kernel
theorem dX0_isOver_3 : decode cX0_isOver 3 = .ok (.iload_n 2, 1) := by decide +kernel
theorem dX0_isOver_4 : decode cX0_isOver 4 = .ok (.if_icmp .ge 26, 3) := by decide +kernel
theorem dX0_isOver_7 : decode cX0_isOver 7 = .ok (.iload_n 1, 1) := by decide +kernel
theorem dX0_isOver_8 : decode cX0_isOver 8 = .ok (.aload_n 0, 1) := by decide +kernel
theorem dX0_isOver_9 : decode cX0_isOver 9 = .ok (.getfield 16, 3) := by decide +kernel
theorem dX0_isOver_12 : decode cX0_isOver 12 = .ok (.iload_n 3, 1) := by decide +kernel
theorem dX0_isOver_13 : decode cX0_isOver 13 = .ok (.invokevirtual 69, 3) := by decide +kernel
theorem dX0_isOver_16 : decode cX0_isOver 16 = .ok (.invokestatic 72, 3) := by decide +kernel
theorem dX0_isOver_19 : decode cX0_isOver 19 = .ok (.ifCond .ne 5, 3) := by decide +kernel
theorem dX0_isOver_22 : decode cX0_isOver 22 = .ok (.iconst 0, 1) := by decide +kernel
theorem dX0_isOver_23 : decode cX0_isOver 23 = .ok (.ireturn, 1) := by decide +kernel
theorem dX0_isOver_24 : decode cX0_isOver 24 = .ok (.iinc 3 1, 3) := by decide +kernel
theorem dX0_isOver_27 : decode cX0_isOver 27 = .ok (.goto (-25), 3) := by decide +kernel
theorem dX0_isOver_30 : decode cX0_isOver 30 = .ok (.iconst 1, 1) := by decide +kernel
theorem dX0_isOver_31 : decode cX0_isOver 31 = .ok (.ireturn, 1) := by decide +kernel
theorem dX0_enterParts_0 : decode cX0_enterParts 0 = .ok (.iconst 0, 1) := by decide +kernel
theorem dX0_enterParts_1 : decode cX0_enterParts 1 = .ok (.istore_n 2, 1) := by decide +kernel
theorem dX0_enterParts_2 : decode cX0_enterParts 2 = .ok (.iload_n 2, 1) := by decide +kernel
theorem dX0_enterParts_3 : decode cX0_enterParts 3 = .ok (.iload_n 1, 1) := by decide +kernel
theorem dX0_enterParts_4 : decode cX0_enterParts 4 = .ok (.if_icmp .gt 67, 3) := by decide +kernel
theorem dX0_enterParts_7 : decode cX0_enterParts 7 = .ok (.iconst 0, 1) := by decide +kernel
theorem dX0_enterParts_8 : decode cX0_enterParts 8 = .ok (.istore_n 3, 1) := by decide +kernel
theorem dX0_enterParts_9 : decode cX0_enterParts 9 = .ok (.aload_n 0, 1) := by decide +kernel
theorem dX0_enterParts_10 : decode cX0_enterParts 10 = .ok (.getfield 16, 3) := by decide +kernel
theorem dX0_enterParts_13 : decode cX0_enterParts 13 = .ok (.iload_n 2, 1) := by decide +kernel
theorem dX0_enterParts_14 : decode cX0_enterParts 14 = .ok (.iload_n 2, 1) := by decide +kernel
theorem dX0_enterParts_15 : decode cX0_enterParts 15 = .ok (.iload_n 3, 1) := by decide +kernel
theorem dX0_enterParts_16 : decode cX0_enterParts 16 = .ok (.invokevirtual 76, 3) := by decide +kernel
theorem dX0_enterParts_19 : decode cX0_enterParts 19 = .ok (.iload_n 2, 1) := by decide +kernel
theorem dX0_enterParts_20 : decode cX0_enterParts 20 = .ok (.iconst 1, 1) := by decide +kernel
theorem dX0_enterParts_21 : decode cX0_enterParts 21 = .ok (.iadd, 1) := by decide +kernel
theorem dX0_enterParts_22 : decode cX0_enterParts 22 = .ok (.istore 4, 2) := by decide +kernel
theorem dX0_enterParts_24 : decode cX0_enterParts 24 = .ok (.iload 4, 2) := by decide +kernel
theorem dX0_enterParts_26 : decode cX0_enterParts 26 = .ok (.iload_n 1, 1) := by decide +kernel
theorem dX0_enterParts_27 : decode cX0_enterParts 27 = .ok (.if_icmp .gt 38, 3) := by decide +kernel
theorem dX0_enterParts_30 : decode cX0_enterParts 30 = .ok (.iconst 5, 1) := by decide +kernel
theorem dX0_enterParts_31 : decode cX0_enterParts 31 = .ok (.iload_n 3, 1) := by decide +kernel
theorem dX0_enterParts_32 : decode cX0_enterParts 32 = .ok (.imul, 1) := by decide +kernel
theorem dX0_enterParts_33 : decode cX0_enterParts 33 = .ok (.aload_n 0, 1) := by decide +kernel
theorem dX0_enterParts_34 : decode cX0_enterParts 34 = .ok (.getfield 16, 3) := by decide +kernel
theorem dX0_enterParts_37 : decode cX0_enterParts 37 = .ok (.iload 4, 2) := by decide +kernel
theorem dX0_enterParts_39 : decode cX0_enterParts 39 = .ok (.iconst 1, 1) := by decide +kernel
theorem dX0_enterParts_40 : decode cX0_enterParts 40 = .ok (.isub, 1) := by decide +kernel
theorem dX0_enterParts_41 : decode cX0_enterParts 41 = .ok (.invokevirtual 69, 3) := by decide +kernel
theorem dX0_enterParts_44 : decode cX0_enterParts 44 = .ok (.iadd, 1) := by decide +kernel
theorem dX0_enterParts_45 : decode cX0_enterParts 45 = .ok (.iconst 1, 1) := by decide +kernel
theorem dX0_enterParts_46 : decode cX0_enterParts 46 = .ok (.iadd, 1) := by decide +kernel
theorem dX0_enterParts_47 : decode cX0_enterParts 47 = .ok (.istore_n 3, 1) := by decide +kernel
theorem dX0_enterParts_48 : decode cX0_enterParts 48 = .ok (.aload_n 0, 1) := by decide +kernel
theorem dX0_enterParts_49 : decode cX0_enterParts 49 = .ok (.getfield 16, 3) := by decide +kernel
theorem dX0_enterParts_52 : decode cX0_enterParts 52 = .ok (.iload_n 2, 1) := by decide +kernel
theorem dX0_enterParts_53 : decode cX0_enterParts 53 = .ok (.iload 4, 2) := by decide +kernel
theorem dX0_enterParts_55 : decode cX0_enterParts 55 = .ok (.iload_n 3, 1) := by decide +kernel
theorem dX0_enterParts_56 : decode cX0_enterParts 56 = .ok (.invokevirtual 76, 3) := by decide +kernel
theorem dX0_enterParts_59 : decode cX0_enterParts 59 = .ok (.iinc 4 1, 3) := by decide +kernel
theorem dX0_enterParts_62 : decode cX0_enterParts 62 = .ok (.goto (-38), 3) := by decide +kernel
theorem dX0_enterParts_65 : decode cX0_enterParts 65 = .ok (.iinc 2 1, 3) := by decide +kernel
theorem dX0_enterParts_68 : decode cX0_enterParts 68 = .ok (.goto (-66), 3) := by decide +kernel
theorem dX0_enterParts_71 : decode cX0_enterParts 71 = .ok (.return_, 1) := by decide +kernel
theorem dX0_number_0 : decode cX0_number 0 = .ok (.iconst 0, 1) := by decide +kernel
theorem dX0_number_1 : decode cX0_number 1 = .ok (.istore_n 2, 1) := by decide +kernel
theorem dX0_number_2 : decode cX0_number 2 = .ok (.iconst 0, 1) := by decide +kernel
theorem dX0_number_3 : decode cX0_number 3 = .ok (.istore_n 3, 1) := by decide +kernel
theorem dX0_number_4 : decode cX0_number 4 = .ok (.iload_n 3, 1) := by decide +kernel
theorem dX0_number_5 : decode cX0_number 5 = .ok (.iload_n 1, 1) := by decide +kernel
theorem dX0_number_6 : decode cX0_number 6 = .ok (.if_icmp .ge 25, 3) := by decide +kernel
theorem dX0_number_9 : decode cX0_number 9 = .ok (.bipush 6, 2) := by decide +kernel
theorem dX0_number_11 : decode cX0_number 11 = .ok (.iload_n 2, 1) := by decide +kernel
theorem dX0_number_12 : decode cX0_number 12 = .ok (.imul, 1) := by decide +kernel
theorem dX0_number_13 : decode cX0_number 13 = .ok (.aload_n 0, 1) := by decide +kernel
theorem dX0_number_14 : decode cX0_number 14 = .ok (.getfield 16, 3) := by decide +kernel
theorem dX0_number_17 : decode cX0_number 17 = .ok (.iload_n 3, 1) := by decide +kernel
theorem dX0_number_18 : decode cX0_number 18 = .ok (.invokevirtual 69, 3) := by decide +kernel
theorem dX0_number_21 : decode cX0_number 21 = .ok (.iadd, 1) := by decide +kernel
theorem dX0_number_22 : decode cX0_number 22 = .ok (.iconst 1, 1) := by decide +kernel
theorem dX0_number_23 : decode cX0_number 23 = .ok (.iadd, 1) := by decide +kernel
theorem dX0_number_24 : decode cX0_number 24 = .ok (.istore_n 2, 1) := by decide +kernel
theorem dX0_number_25 : decode cX0_number 25 = .ok (.iinc 3 1, 3) := by decide +kernel
theorem dX0_number_28 : decode cX0_number 28 = .ok (.goto (-24), 3) := by decide +kernel
theorem dX0_number_31 : decode cX0_number 31 = .ok (.iload_n 2, 1) := by decide +kernel
theorem dX0_number_32 : decode cX0_number 32 = .ok (.ireturn, 1) := by decide +kernel
theorem dX1_init_0 : decode cX1_init 0 = .ok (.aload_n 0, 1) := by decide +kernel
theorem dX1_init_1 : decode cX1_init 1 = .ok (.invokespecial 3, 3) := by decide +kernel
theorem dX1_init_4 : decode cX1_init 4 = .ok (.aload_n 0, 1) := by decide +kernel
theorem dX1_init_5 : decode cX1_init 5 = .ok (.bipush 8, 2) := by decide +kernel
theorem dX1_init_7 : decode cX1_init 7 = .ok (.newarray .int, 2) := by decide +kernel
theorem dX1_init_9 : decode cX1_init 9 = .ok (.putfield 9, 3) := by decide +kernel
theorem dX1_init_12 : decode cX1_init 12 = .ok (.aload_n 0, 1) := by decide +kernel
theorem dX1_init_13 : decode cX1_init 13 = .ok (.bipush 81, 2) := by decide +kernel
theorem dX1_init_15 : decode cX1_init 15 = .ok (.newarray .int, 2) := by decide +kernel
theorem dX1_init_17 : decode cX1_init 17 = .ok (.putfield 15, 3) := by decide +kernel
theorem dX1_init_20 : decode cX1_init 20 = .ok (.aload_n 0, 1) := by decide +kernel
theorem dX1_init_21 : decode cX1_init 21 = .ok (.bipush 9, 2) := by decide +kernel
theorem dX1_init_23 : decode cX1_init 23 = .ok (.newarray .int, 2) := by decide +kernel
theorem dX1_init_25 : decode cX1_init 25 = .ok (.putfield 18, 3) := by decide +kernel
theorem dX1_init_28 : decode cX1_init 28 = .ok (.aload_n 0, 1) := by decide +kernel
theorem dX1_init_29 : decode cX1_init 29 = .ok (.iconst 0, 1) := by decide +kernel
theorem dX1_init_30 : decode cX1_init 30 = .ok (.iload_n 1, 1) := by decide +kernel
theorem dX1_init_31 : decode cX1_init 31 = .ok (.invokestatic 21, 3) := by decide +kernel
theorem dX1_init_34 : decode cX1_init 34 = .ok (.bipush 6, 2) := by decide +kernel
theorem dX1_init_36 : decode cX1_init 36 = .ok (.imul, 1) := by decide +kernel
theorem dX1_init_37 : decode cX1_init 37 = .ok (.newarray .int, 2) := by decide +kernel
theorem dX1_init_39 : decode cX1_init 39 = .ok (.putfield 27, 3) := by decide +kernel
theorem dX1_init_42 : decode cX1_init 42 = .ok (.return_, 1) := by decide +kernel
theorem dX1_setLetter_0 : decode cX1_setLetter 0 = .ok (.aload_n 0, 1) := by decide +kernel
theorem dX1_setLetter_1 : decode cX1_setLetter 1 = .ok (.getfield 9, 3) := by decide +kernel
theorem dX1_setLetter_4 : decode cX1_setLetter 4 = .ok (.iload_n 1, 1) := by decide +kernel
theorem dX1_setLetter_5 : decode cX1_setLetter 5 = .ok (.iload_n 2, 1) := by decide +kernel
theorem dX1_setLetter_6 : decode cX1_setLetter 6 = .ok (.iastore, 1) := by decide +kernel
theorem dX1_setLetter_7 : decode cX1_setLetter 7 = .ok (.return_, 1) := by decide +kernel
theorem dX1_letter_0 : decode cX1_letter 0 = .ok (.aload_n 0, 1) := by decide +kernel
theorem dX1_letter_1 : decode cX1_letter 1 = .ok (.getfield 9, 3) := by decide +kernel
theorem dX1_letter_4 : decode cX1_letter 4 = .ok (.iload_n 1, 1) := by decide +kernel
theorem dX1_letter_5 : decode cX1_letter 5 = .ok (.iaload, 1) := by decide +kernel
theorem dX1_letter_6 : decode cX1_letter 6 = .ok (.ireturn, 1) := by decide +kernel
theorem dX1_setEntry_0 : decode cX1_setEntry 0 = .ok (.aload_n 0, 1) := by decide +kernel
theorem dX1_setEntry_1 : decode cX1_setEntry 1 = .ok (.getfield 15, 3) := by decide +kernel
theorem dX1_setEntry_4 : decode cX1_setEntry 4 = .ok (.iload_n 1, 1) := by decide +kernel
theorem dX1_setEntry_5 : decode cX1_setEntry 5 = .ok (.bipush 9, 2) := by decide +kernel
theorem dX1_setEntry_7 : decode cX1_setEntry 7 = .ok (.imul, 1) := by decide +kernel
theorem dX1_setEntry_8 : decode cX1_setEntry 8 = .ok (.iload_n 2, 1) := by decide +kernel
theorem dX1_setEntry_9 : decode cX1_setEntry 9 = .ok (.iadd, 1) := by decide +kernel
theorem dX1_setEntry_10 : decode cX1_setEntry 10 = .ok (.iload_n 3, 1) := by decide +kernel
theorem dX1_setEntry_11 : decode cX1_setEntry 11 = .ok (.bipush 6, 2) := by decide +kernel
theorem dX1_setEntry_13 : decode cX1_setEntry 13 = .ok (.imul, 1) := by decide +kernel
theorem dX1_setEntry_14 : decode cX1_setEntry 14 = .ok (.iastore, 1) := by decide +kernel
theorem dX1_setEntry_15 : decode cX1_setEntry 15 = .ok (.return_, 1) := by decide +kernel
theorem dX1_count_0 : decode cX1_count 0 = .ok (.aload_n 0, 1) := by decide +kernel
theorem dX1_count_1 : decode cX1_count 1 = .ok (.getfield 27, 3) := by decide +kernel
theorem dX1_count_4 : decode cX1_count 4 = .ok (.aload_n 0, 1) := by decide +kernel
theorem dX1_count_5 : decode cX1_count 5 = .ok (.getfield 15, 3) := by decide +kernel
theorem dX1_count_8 : decode cX1_count 8 = .ok (.iload_n 2, 1) := by decide +kernel
theorem dX1_count_9 : decode cX1_count 9 = .ok (.bipush 9, 2) := by decide +kernel
theorem dX1_count_11 : decode cX1_count 11 = .ok (.imul, 1) := by decide +kernel
theorem dX1_count_12 : decode cX1_count 12 = .ok (.iload_n 3, 1) := by decide +kernel
theorem dX1_count_13 : decode cX1_count 13 = .ok (.iadd, 1) := by decide +kernel
theorem dX1_count_14 : decode cX1_count 14 = .ok (.iaload, 1) := by decide +kernel
theorem dX1_count_15 : decode cX1_count 15 = .ok (.iload_n 1, 1) := by decide +kernel
theorem dX1_count_16 : decode cX1_count 16 = .ok (.iadd, 1) := by decide +kernel
theorem dX1_count_17 : decode cX1_count 17 = .ok (.iaload, 1) := by decide +kernel
theorem dX1_count_18 : decode cX1_count 18 = .ok (.ireturn, 1) := by decide +kernel
theorem dX1_fill_0 : decode cX1_fill 0 = .ok (.aload_n 0, 1) := by decide +kernel
theorem dX1_fill_1 : decode cX1_fill 1 = .ok (.getfield 15, 3) := by decide +kernel
theorem dX1_fill_4 : decode cX1_fill 4 = .ok (.iload_n 3, 1) := by decide +kernel
theorem dX1_fill_5 : decode cX1_fill 5 = .ok (.bipush 9, 2) := by decide +kernel
theorem dX1_fill_7 : decode cX1_fill 7 = .ok (.imul, 1) := by decide +kernel
theorem dX1_fill_8 : decode cX1_fill 8 = .ok (.iload 4, 2) := by decide +kernel
theorem dX1_fill_10 : decode cX1_fill 10 = .ok (.iadd, 1) := by decide +kernel
theorem dX1_fill_11 : decode cX1_fill 11 = .ok (.iaload, 1) := by decide +kernel
theorem dX1_fill_12 : decode cX1_fill 12 = .ok (.istore 5, 2) := by decide +kernel
theorem dX1_fill_14 : decode cX1_fill 14 = .ok (.iconst 0, 1) := by decide +kernel
theorem dX1_fill_15 : decode cX1_fill 15 = .ok (.istore 6, 2) := by decide +kernel
theorem dX1_fill_17 : decode cX1_fill 17 = .ok (.iload 6, 2) := by decide +kernel
theorem dX1_fill_19 : decode cX1_fill 19 = .ok (.bipush 6, 2) := by decide +kernel
theorem dX1_fill_21 : decode cX1_fill 21 = .ok (.if_icmp .ge 20, 3) := by decide +kernel
theorem dX1_fill_24 : decode cX1_fill 24 = .ok (.aload_n 0, 1) := by decide +kernel
theorem dX1_fill_25 : decode cX1_fill 25 = .ok (.getfield 27, 3) := by decide +kernel
theorem dX1_fill_28 : decode cX1_fill 28 = .ok (.iload 5, 2) := by decide +kernel
theorem dX1_fill_30 : decode cX1_fill 30 = .ok (.iload 6, 2) := by decide +kernel
theorem dX1_fill_32 : decode cX1_fill 32 = .ok (.iadd, 1) := by decide +kernel
theorem dX1_fill_33 : decode cX1_fill 33 = .ok (.iconst 0, 1) := by decide +kernel
theorem dX1_fill_34 : decode cX1_fill 34 = .ok (.iastore, 1) := by decide +kernel
theorem dX1_fill_35 : decode cX1_fill 35 = .ok (.iinc 6 1, 3) := by decide +kernel
theorem dX1_fill_38 : decode cX1_fill 38 = .ok (.goto (-21), 3) := by decide +kernel
theorem dX1_fill_41 : decode cX1_fill 41 = .ok (.iconst 0, 1) := by decide +kernel
theorem dX1_fill_42 : decode cX1_fill 42 = .ok (.istore 6, 2) := by decide +kernel
theorem dX1_fill_44 : decode cX1_fill 44 = .ok (.iload 6, 2) := by decide +kernel
theorem dX1_fill_46 : decode cX1_fill 46 = .ok (.aload_n 2, 1) := by decide +kernel
theorem dX1_fill_47 : decode cX1_fill 47 = .ok (.invokevirtual 30, 3) := by decide +kernel
theorem dX1_fill_50 : decode cX1_fill 50 = .ok (.if_icmp .ge 95, 3) := by decide +kernel
theorem dX1_fill_53 : decode cX1_fill 53 = .ok (.aload_n 2, 1) := by decide +kernel
theorem dX1_fill_54 : decode cX1_fill 54 = .ok (.iload 6, 2) := by decide +kernel
theorem dX1_fill_56 : decode cX1_fill 56 = .ok (.invokevirtual 36, 3) := by decide +kernel
theorem dX1_fill_59 : decode cX1_fill 59 = .ok (.istore 7, 2) := by decide +kernel
theorem dX1_fill_61 : decode cX1_fill 61 = .ok (.lconst 0, 1) := by decide +kernel
theorem dX1_fill_62 : decode cX1_fill 62 = .ok (.lstore 8, 2) := by decide +kernel
theorem dX1_fill_64 : decode cX1_fill 64 = .ok (.aload_n 1, 1) := by decide +kernel
theorem dX1_fill_65 : decode cX1_fill 65 = .ok (.iload 7, 2) := by decide +kernel
theorem dX1_fill_67 : decode cX1_fill 67 = .ok (.invokevirtual 40, 3) := by decide +kernel
theorem dX1_fill_70 : decode cX1_fill 70 = .ok (.istore 10, 2) := by decide +kernel
theorem dX1_fill_72 : decode cX1_fill 72 = .ok (.iload 10, 2) := by decide +kernel
theorem dX1_fill_74 : decode cX1_fill 74 = .ok (.aload_n 1, 1) := by decide +kernel
theorem dX1_fill_75 : decode cX1_fill 75 = .ok (.iload 7, 2) := by decide +kernel
theorem dX1_fill_77 : decode cX1_fill 77 = .ok (.invokevirtual 45, 3) := by decide +kernel
theorem dX1_fill_80 : decode cX1_fill 80 = .ok (.if_icmp .ge 40, 3) := by decide +kernel
theorem dX1_fill_83 : decode cX1_fill 83 = .ok (.aload_n 2, 1) := by decide +kernel
theorem dX1_fill_84 : decode cX1_fill 84 = .ok (.iload 10, 2) := by decide +kernel
theorem dX1_fill_86 : decode cX1_fill 86 = .ok (.iconst 0, 1) := by decide +kernel
theorem dX1_fill_87 : decode cX1_fill 87 = .ok (.invokevirtual 48, 3) := by decide +kernel
theorem dX1_fill_90 : decode cX1_fill 90 = .ok (.iload 4, 2) := by decide +kernel
theorem dX1_fill_92 : decode cX1_fill 92 = .ok (.iload_n 3, 1) := by decide +kernel
theorem dX1_fill_93 : decode cX1_fill 93 = .ok (.isub, 1) := by decide +kernel
theorem dX1_fill_94 : decode cX1_fill 94 = .ok (.if_icmp .gt 20, 3) := by decide +kernel
theorem dX1_fill_97 : decode cX1_fill 97 = .ok (.lload 8, 2) := by decide +kernel
theorem dX1_fill_99 : decode cX1_fill 99 = .ok (.aload_n 0, 1) := by decide +kernel
theorem dX1_fill_100 : decode cX1_fill 100 = .ok (.aload_n 1, 1) := by decide +kernel
theorem dX1_fill_101 : decode cX1_fill 101 = .ok (.aload_n 2, 1) := by decide +kernel
theorem dX1_fill_102 : decode cX1_fill 102 = .ok (.iload 10, 2) := by decide +kernel
theorem dX1_fill_104 : decode cX1_fill 104 = .ok (.iload_n 3, 1) := by decide +kernel
theorem dX1_fill_105 : decode cX1_fill 105 = .ok (.iload 4, 2) := by decide +kernel
theorem dX1_fill_107 : decode cX1_fill 107 = .ok (.invokevirtual 51, 3) := by decide +kernel
theorem dX1_fill_110 : decode cX1_fill 110 = .ok (.i2l, 1) := by decide +kernel
theorem dX1_fill_111 : decode cX1_fill 111 = .ok (.ladd, 1) := by decide +kernel
theorem dX1_fill_112 : decode cX1_fill 112 = .ok (.lstore 8, 2) := by decide +kernel
theorem dX1_fill_114 : decode cX1_fill 114 = .ok (.iinc 10 1, 3) := by decide +kernel
theorem dX1_fill_117 : decode cX1_fill 117 = .ok (.goto (-45), 3) := by decide +kernel
theorem dX1_fill_120 : decode cX1_fill 120 = .ok (.aload_n 0, 1) := by decide +kernel
theorem dX1_fill_121 : decode cX1_fill 121 = .ok (.getfield 27, 3) := by decide +kernel
theorem dX1_fill_124 : decode cX1_fill 124 = .ok (.iload 5, 2) := by decide +kernel
theorem dX1_fill_126 : decode cX1_fill 126 = .ok (.iload 7, 2) := by decide +kernel
theorem dX1_fill_128 : decode cX1_fill 128 = .ok (.iadd, 1) := by decide +kernel
theorem dX1_fill_129 : decode cX1_fill 129 = .ok (.ldc2_w 55, 3) := by decide +kernel
theorem dX1_fill_132 : decode cX1_fill 132 = .ok (.lload 8, 2) := by decide +kernel
theorem dX1_fill_134 : decode cX1_fill 134 = .ok (.invokestatic 57, 3) := by decide +kernel
theorem dX1_fill_137 : decode cX1_fill 137 = .ok (.l2i, 1) := by decide +kernel
theorem dX1_fill_138 : decode cX1_fill 138 = .ok (.iastore, 1) := by decide +kernel
theorem dX1_fill_139 : decode cX1_fill 139 = .ok (.iinc 6 1, 3) := by decide +kernel
theorem dX1_fill_142 : decode cX1_fill 142 = .ok (.goto (-98), 3) := by decide +kernel
theorem dX1_fill_145 : decode cX1_fill 145 = .ok (.return_, 1) := by decide +kernel
theorem dX1_waysOf_0 : decode cX1_waysOf 0 = .ok (.iload 5, 2) := by decide +kernel
theorem dX1_waysOf_2 : decode cX1_waysOf 2 = .ok (.iload 4, 2) := by decide +kernel
theorem dX1_waysOf_4 : decode cX1_waysOf 4 = .ok (.isub, 1) := by decide +kernel
theorem dX1_waysOf_5 : decode cX1_waysOf 5 = .ok (.aload_n 2, 1) := by decide +kernel
theorem dX1_waysOf_6 : decode cX1_waysOf 6 = .ok (.iload_n 3, 1) := by decide +kernel
theorem dX1_waysOf_7 : decode cX1_waysOf 7 = .ok (.iconst 0, 1) := by decide +kernel
theorem dX1_waysOf_8 : decode cX1_waysOf 8 = .ok (.invokevirtual 48, 3) := by decide +kernel
theorem dX1_waysOf_11 : decode cX1_waysOf 11 = .ok (.isub, 1) := by decide +kernel
theorem dX1_waysOf_12 : decode cX1_waysOf 12 = .ok (.istore 6, 2) := by decide +kernel
theorem dX1_waysOf_14 : decode cX1_waysOf 14 = .ok (.iload 4, 2) := by decide +kernel
theorem dX1_waysOf_16 : decode cX1_waysOf 16 = .ok (.istore 7, 2) := by decide +kernel
theorem dX1_waysOf_18 : decode cX1_waysOf 18 = .ok (.iload 4, 2) := by decide +kernel
theorem dX1_waysOf_20 : decode cX1_waysOf 20 = .ok (.istore 8, 2) := by decide +kernel
theorem dX1_waysOf_22 : decode cX1_waysOf 22 = .ok (.iload 8, 2) := by decide +kernel
theorem dX1_waysOf_24 : decode cX1_waysOf 24 = .ok (.iload 4, 2) := by decide +kernel
theorem dX1_waysOf_26 : decode cX1_waysOf 26 = .ok (.iload 6, 2) := by decide +kernel
theorem dX1_waysOf_28 : decode cX1_waysOf 28 = .ok (.iadd, 1) := by decide +kernel
theorem dX1_waysOf_29 : decode cX1_waysOf 29 = .ok (.if_icmp .gt 28, 3) := by decide +kernel
theorem dX1_waysOf_32 : decode cX1_waysOf 32 = .ok (.aload_n 0, 1) := by decide +kernel
theorem dX1_waysOf_33 : decode cX1_waysOf 33 = .ok (.getfield 18, 3) := by decide +kernel
theorem dX1_waysOf_36 : decode cX1_waysOf 36 = .ok (.iload 8, 2) := by decide +kernel
theorem dX1_waysOf_38 : decode cX1_waysOf 38 = .ok (.iload 8, 2) := by decide +kernel
theorem dX1_waysOf_40 : decode cX1_waysOf 40 = .ok (.iload 4, 2) := by decide +kernel
theorem dX1_waysOf_42 : decode cX1_waysOf 42 = .ok (.if_icmp .ne 7, 3) := by decide +kernel
theorem dX1_waysOf_45 : decode cX1_waysOf 45 = .ok (.iconst 1, 1) := by decide +kernel
theorem dX1_waysOf_46 : decode cX1_waysOf 46 = .ok (.goto 4, 3) := by decide +kernel
theorem dX1_waysOf_49 : decode cX1_waysOf 49 = .ok (.iconst 0, 1) := by decide +kernel
theorem dX1_waysOf_50 : decode cX1_waysOf 50 = .ok (.iastore, 1) := by decide +kernel
theorem dX1_waysOf_51 : decode cX1_waysOf 51 = .ok (.iinc 8 1, 3) := by decide +kernel
theorem dX1_waysOf_54 : decode cX1_waysOf 54 = .ok (.goto (-32), 3) := by decide +kernel
theorem dX1_waysOf_57 : decode cX1_waysOf 57 = .ok (.aload_n 1, 1) := by decide +kernel
theorem dX1_waysOf_58 : decode cX1_waysOf 58 = .ok (.iload_n 3, 1) := by decide +kernel
theorem dX1_waysOf_59 : decode cX1_waysOf 59 = .ok (.invokevirtual 61, 3) := by decide +kernel
theorem dX1_waysOf_62 : decode cX1_waysOf 62 = .ok (.istore 8, 2) := by decide +kernel
theorem dX1_waysOf_64 : decode cX1_waysOf 64 = .ok (.iconst 0, 1) := by decide +kernel
theorem dX1_waysOf_65 : decode cX1_waysOf 65 = .ok (.istore 9, 2) := by decide +kernel
theorem dX1_waysOf_67 : decode cX1_waysOf 67 = .ok (.iload 9, 2) := by decide +kernel
theorem dX1_waysOf_69 : decode cX1_waysOf 69 = .ok (.iload 8, 2) := by decide +kernel
theorem dX1_waysOf_71 : decode cX1_waysOf 71 = .ok (.if_icmp .ge 106, 3) := by decide +kernel
theorem dX1_waysOf_74 : decode cX1_waysOf 74 = .ok (.aload_n 1, 1) := by decide +kernel
theorem dX1_waysOf_75 : decode cX1_waysOf 75 = .ok (.iload_n 3, 1) := by decide +kernel
theorem dX1_waysOf_76 : decode cX1_waysOf 76 = .ok (.iload 9, 2) := by decide +kernel
theorem dX1_waysOf_78 : decode cX1_waysOf 78 = .ok (.invokevirtual 64, 3) := by decide +kernel
theorem dX1_waysOf_81 : decode cX1_waysOf 81 = .ok (.istore 10, 2) := by decide +kernel
theorem dX1_waysOf_83 : decode cX1_waysOf 83 = .ok (.iload 7, 2) := by decide +kernel
theorem dX1_waysOf_85 : decode cX1_waysOf 85 = .ok (.aload_n 2, 1) := by decide +kernel
theorem dX1_waysOf_86 : decode cX1_waysOf 86 = .ok (.iload_n 3, 1) := by decide +kernel
theorem dX1_waysOf_87 : decode cX1_waysOf 87 = .ok (.iload 9, 2) := by decide +kernel
theorem dX1_waysOf_89 : decode cX1_waysOf 89 = .ok (.invokevirtual 48, 3) := by decide +kernel
theorem dX1_waysOf_92 : decode cX1_waysOf 92 = .ok (.iadd, 1) := by decide +kernel
theorem dX1_waysOf_93 : decode cX1_waysOf 93 = .ok (.aload_n 2, 1) := by decide +kernel
theorem dX1_waysOf_94 : decode cX1_waysOf 94 = .ok (.iload_n 3, 1) := by decide +kernel
theorem dX1_waysOf_95 : decode cX1_waysOf 95 = .ok (.iload 9, 2) := by decide +kernel
theorem dX1_waysOf_97 : decode cX1_waysOf 97 = .ok (.iconst 1, 1) := by decide +kernel
theorem dX1_waysOf_98 : decode cX1_waysOf 98 = .ok (.iadd, 1) := by decide +kernel
theorem dX1_waysOf_99 : decode cX1_waysOf 99 = .ok (.invokevirtual 48, 3) := by decide +kernel
theorem dX1_waysOf_102 : decode cX1_waysOf 102 = .ok (.isub, 1) := by decide +kernel
theorem dX1_waysOf_103 : decode cX1_waysOf 103 = .ok (.istore 11, 2) := by decide +kernel
theorem dX1_waysOf_105 : decode cX1_waysOf 105 = .ok (.iload 10, 2) := by decide +kernel
theorem dX1_waysOf_107 : decode cX1_waysOf 107 = .ok (.invokestatic 67, 3) := by decide +kernel
theorem dX1_waysOf_110 : decode cX1_waysOf 110 = .ok (.ifCond .eq 16, 3) := by decide +kernel
theorem dX1_waysOf_113 : decode cX1_waysOf 113 = .ok (.aload_n 0, 1) := by decide +kernel
theorem dX1_waysOf_114 : decode cX1_waysOf 114 = .ok (.iload 10, 2) := by decide +kernel
theorem dX1_waysOf_116 : decode cX1_waysOf 116 = .ok (.iload 7, 2) := by decide +kernel
theorem dX1_waysOf_118 : decode cX1_waysOf 118 = .ok (.iload 6, 2) := by decide +kernel
theorem dX1_waysOf_120 : decode cX1_waysOf 120 = .ok (.invokevirtual 71, 3) := by decide +kernel
theorem dX1_waysOf_123 : decode cX1_waysOf 123 = .ok (.goto 44, 3) := by decide +kernel
theorem dX1_waysOf_126 : decode cX1_waysOf 126 = .ok (.iload 9, 2) := by decide +kernel
theorem dX1_waysOf_128 : decode cX1_waysOf 128 = .ok (.iload 8, 2) := by decide +kernel
theorem dX1_waysOf_130 : decode cX1_waysOf 130 = .ok (.iconst 1, 1) := by decide +kernel
theorem dX1_waysOf_131 : decode cX1_waysOf 131 = .ok (.isub, 1) := by decide +kernel
theorem dX1_waysOf_132 : decode cX1_waysOf 132 = .ok (.if_icmp .ne 8, 3) := by decide +kernel
theorem dX1_waysOf_135 : decode cX1_waysOf 135 = .ok (.iload 5, 2) := by decide +kernel
theorem dX1_waysOf_137 : decode cX1_waysOf 137 = .ok (.goto 5, 3) := by decide +kernel
theorem dX1_waysOf_140 : decode cX1_waysOf 140 = .ok (.iload 11, 2) := by decide +kernel
theorem dX1_waysOf_142 : decode cX1_waysOf 142 = .ok (.istore 12, 2) := by decide +kernel
theorem dX1_waysOf_144 : decode cX1_waysOf 144 = .ok (.aload_n 0, 1) := by decide +kernel
theorem dX1_waysOf_145 : decode cX1_waysOf 145 = .ok (.iload 10, 2) := by decide +kernel
theorem dX1_waysOf_147 : decode cX1_waysOf 147 = .ok (.bipush 10, 2) := by decide +kernel
theorem dX1_waysOf_149 : decode cX1_waysOf 149 = .ok (.isub, 1) := by decide +kernel
theorem dX1_waysOf_150 : decode cX1_waysOf 150 = .ok (.iload 7, 2) := by decide +kernel
theorem dX1_waysOf_152 : decode cX1_waysOf 152 = .ok (.iload 7, 2) := by decide +kernel
theorem dX1_waysOf_154 : decode cX1_waysOf 154 = .ok (.iload 6, 2) := by decide +kernel
theorem dX1_waysOf_156 : decode cX1_waysOf 156 = .ok (.iadd, 1) := by decide +kernel
theorem dX1_waysOf_157 : decode cX1_waysOf 157 = .ok (.iload 12, 2) := by decide +kernel
theorem dX1_waysOf_159 : decode cX1_waysOf 159 = .ok (.iload 11, 2) := by decide +kernel
theorem dX1_waysOf_161 : decode cX1_waysOf 161 = .ok (.iload 6, 2) := by decide +kernel
theorem dX1_waysOf_163 : decode cX1_waysOf 163 = .ok (.iadd, 1) := by decide +kernel
theorem dX1_waysOf_164 : decode cX1_waysOf 164 = .ok (.invokevirtual 75, 3) := by decide +kernel
theorem dX1_waysOf_167 : decode cX1_waysOf 167 = .ok (.iload 11, 2) := by decide +kernel
theorem dX1_waysOf_169 : decode cX1_waysOf 169 = .ok (.istore 7, 2) := by decide +kernel
theorem dX1_waysOf_171 : decode cX1_waysOf 171 = .ok (.iinc 9 1, 3) := by decide +kernel
theorem dX1_waysOf_174 : decode cX1_waysOf 174 = .ok (.goto (-107), 3) := by decide +kernel
theorem dX1_waysOf_177 : decode cX1_waysOf 177 = .ok (.aload_n 0, 1) := by decide +kernel
theorem dX1_waysOf_178 : decode cX1_waysOf 178 = .ok (.getfield 18, 3) := by decide +kernel
theorem dX1_waysOf_181 : decode cX1_waysOf 181 = .ok (.iload 5, 2) := by decide +kernel
theorem dX1_waysOf_183 : decode cX1_waysOf 183 = .ok (.iaload, 1) := by decide +kernel
theorem dX1_waysOf_184 : decode cX1_waysOf 184 = .ok (.ireturn, 1) := by decide +kernel
theorem dX1_passLetter_0 : decode cX1_passLetter 0 = .ok (.iload_n 2, 1) := by decide +kernel
theorem dX1_passLetter_1 : decode cX1_passLetter 1 = .ok (.iload_n 3, 1) := by decide +kernel
theorem dX1_passLetter_2 : decode cX1_passLetter 2 = .ok (.iadd, 1) := by decide +kernel
theorem dX1_passLetter_3 : decode cX1_passLetter 3 = .ok (.istore 4, 2) := by decide +kernel
theorem dX1_passLetter_5 : decode cX1_passLetter 5 = .ok (.iload 4, 2) := by decide +kernel
theorem dX1_passLetter_7 : decode cX1_passLetter 7 = .ok (.iload_n 2, 1) := by decide +kernel
theorem dX1_passLetter_8 : decode cX1_passLetter 8 = .ok (.if_icmp .lt 40, 3) := by decide +kernel
theorem dX1_passLetter_11 : decode cX1_passLetter 11 = .ok (.aload_n 0, 1) := by decide +kernel
theorem dX1_passLetter_12 : decode cX1_passLetter 12 = .ok (.getfield 18, 3) := by decide +kernel
theorem dX1_passLetter_15 : decode cX1_passLetter 15 = .ok (.iload 4, 2) := by decide +kernel
theorem dX1_passLetter_17 : decode cX1_passLetter 17 = .ok (.iconst 1, 1) := by decide +kernel
theorem dX1_passLetter_18 : decode cX1_passLetter 18 = .ok (.iadd, 1) := by decide +kernel
theorem dX1_passLetter_19 : decode cX1_passLetter 19 = .ok (.aload_n 0, 1) := by decide +kernel
theorem dX1_passLetter_20 : decode cX1_passLetter 20 = .ok (.getfield 9, 3) := by decide +kernel
theorem dX1_passLetter_23 : decode cX1_passLetter 23 = .ok (.iload 4, 2) := by decide +kernel
theorem dX1_passLetter_25 : decode cX1_passLetter 25 = .ok (.iaload, 1) := by decide +kernel
theorem dX1_passLetter_26 : decode cX1_passLetter 26 = .ok (.iload_n 1, 1) := by decide +kernel
theorem dX1_passLetter_27 : decode cX1_passLetter 27 = .ok (.if_icmp .ne 13, 3) := by decide +kernel
theorem dX1_passLetter_30 : decode cX1_passLetter 30 = .ok (.aload_n 0, 1) := by decide +kernel
theorem dX1_passLetter_31 : decode cX1_passLetter 31 = .ok (.getfield 18, 3) := by decide +kernel
theorem dX1_passLetter_34 : decode cX1_passLetter 34 = .ok (.iload 4, 2) := by decide +kernel
theorem dX1_passLetter_36 : decode cX1_passLetter 36 = .ok (.iaload, 1) := by decide +kernel
theorem dX1_passLetter_37 : decode cX1_passLetter 37 = .ok (.goto 4, 3) := by decide +kernel
theorem dX1_passLetter_40 : decode cX1_passLetter 40 = .ok (.iconst 0, 1) := by decide +kernel
theorem dX1_passLetter_41 : decode cX1_passLetter 41 = .ok (.iastore, 1) := by decide +kernel
theorem dX1_passLetter_42 : decode cX1_passLetter 42 = .ok (.iinc 4 (-1), 3) := by decide +kernel
theorem dX1_passLetter_45 : decode cX1_passLetter 45 = .ok (.goto (-40), 3) := by decide +kernel
theorem dX1_passLetter_48 : decode cX1_passLetter 48 = .ok (.return_, 1) := by decide +kernel
theorem dX1_passNonterminal_0 : decode cX1_passNonterminal 0 = .ok (.iload 5, 2) := by decide +kernel
theorem dX1_passNonterminal_2 : decode cX1_passNonterminal 2 = .ok (.istore 6, 2) := by decide +kernel
theorem dX1_passNonterminal_4 : decode cX1_passNonterminal 4 = .ok (.iload 6, 2) := by decide +kernel
theorem dX1_passNonterminal_6 : decode cX1_passNonterminal 6 = .ok (.iload 4, 2) := by decide +kernel
theorem dX1_passNonterminal_8 : decode cX1_passNonterminal 8 = .ok (.if_icmp .lt 84, 3) := by decide +kernel
theorem dX1_passNonterminal_11 : decode cX1_passNonterminal 11 = .ok (.lconst 0, 1) := by decide +kernel
theorem dX1_passNonterminal_12 : decode cX1_passNonterminal 12 = .ok (.lstore 7, 2) := by decide +kernel
theorem dX1_passNonterminal_14 : decode cX1_passNonterminal 14 = .ok (.iload_n 2, 1) := by decide +kernel
theorem dX1_passNonterminal_15 : decode cX1_passNonterminal 15 = .ok (.istore 9, 2) := by decide +kernel
theorem dX1_passNonterminal_17 : decode cX1_passNonterminal 17 = .ok (.iload 9, 2) := by decide +kernel
theorem dX1_passNonterminal_19 : decode cX1_passNonterminal 19 = .ok (.iload_n 3, 1) := by decide +kernel
theorem dX1_passNonterminal_20 : decode cX1_passNonterminal 20 = .ok (.if_icmp .gt 56, 3) := by decide +kernel
theorem dX1_passNonterminal_23 : decode cX1_passNonterminal 23 = .ok (.iload 9, 2) := by decide +kernel
theorem dX1_passNonterminal_25 : decode cX1_passNonterminal 25 = .ok (.iload 6, 2) := by decide +kernel
theorem dX1_passNonterminal_27 : decode cX1_passNonterminal 27 = .ok (.if_icmp .gt 49, 3) := by decide +kernel
theorem dX1_passNonterminal_30 : decode cX1_passNonterminal 30 = .ok (.aload_n 0, 1) := by decide +kernel
theorem dX1_passNonterminal_31 : decode cX1_passNonterminal 31 = .ok (.getfield 18, 3) := by decide +kernel
theorem dX1_passNonterminal_34 : decode cX1_passNonterminal 34 = .ok (.iload 9, 2) := by decide +kernel
theorem dX1_passNonterminal_36 : decode cX1_passNonterminal 36 = .ok (.iaload, 1) := by decide +kernel
theorem dX1_passNonterminal_37 : decode cX1_passNonterminal 37 = .ok (.ifCond .eq 33, 3) := by decide +kernel
theorem dX1_passNonterminal_40 : decode cX1_passNonterminal 40 = .ok (.ldc2_w 55, 3) := by decide +kernel
theorem dX1_passNonterminal_43 : decode cX1_passNonterminal 43 = .ok (.lload 7, 2) := by decide +kernel
theorem dX1_passNonterminal_45 : decode cX1_passNonterminal 45 = .ok (.aload_n 0, 1) := by decide +kernel
theorem dX1_passNonterminal_46 : decode cX1_passNonterminal 46 = .ok (.getfield 18, 3) := by decide +kernel
theorem dX1_passNonterminal_49 : decode cX1_passNonterminal 49 = .ok (.iload 9, 2) := by decide +kernel
theorem dX1_passNonterminal_51 : decode cX1_passNonterminal 51 = .ok (.iaload, 1) := by decide +kernel
theorem dX1_passNonterminal_52 : decode cX1_passNonterminal 52 = .ok (.i2l, 1) := by decide +kernel
theorem dX1_passNonterminal_53 : decode cX1_passNonterminal 53 = .ok (.aload_n 0, 1) := by decide +kernel
theorem dX1_passNonterminal_54 : decode cX1_passNonterminal 54 = .ok (.iload_n 1, 1) := by decide +kernel
theorem dX1_passNonterminal_55 : decode cX1_passNonterminal 55 = .ok (.iload 9, 2) := by decide +kernel
theorem dX1_passNonterminal_57 : decode cX1_passNonterminal 57 = .ok (.iload 6, 2) := by decide +kernel
theorem dX1_passNonterminal_59 : decode cX1_passNonterminal 59 = .ok (.invokevirtual 79, 3) := by decide +kernel
theorem dX1_passNonterminal_62 : decode cX1_passNonterminal 62 = .ok (.i2l, 1) := by decide +kernel
theorem dX1_passNonterminal_63 : decode cX1_passNonterminal 63 = .ok (.lmul, 1) := by decide +kernel
theorem dX1_passNonterminal_64 : decode cX1_passNonterminal 64 = .ok (.ladd, 1) := by decide +kernel
theorem dX1_passNonterminal_65 : decode cX1_passNonterminal 65 = .ok (.invokestatic 57, 3) := by decide +kernel
theorem dX1_passNonterminal_68 : decode cX1_passNonterminal 68 = .ok (.lstore 7, 2) := by decide +kernel
theorem dX1_passNonterminal_70 : decode cX1_passNonterminal 70 = .ok (.iinc 9 1, 3) := by decide +kernel
theorem dX1_passNonterminal_73 : decode cX1_passNonterminal 73 = .ok (.goto (-56), 3) := by decide +kernel
theorem dX1_passNonterminal_76 : decode cX1_passNonterminal 76 = .ok (.aload_n 0, 1) := by decide +kernel
theorem dX1_passNonterminal_77 : decode cX1_passNonterminal 77 = .ok (.getfield 18, 3) := by decide +kernel
theorem dX1_passNonterminal_80 : decode cX1_passNonterminal 80 = .ok (.iload 6, 2) := by decide +kernel
theorem dX1_passNonterminal_82 : decode cX1_passNonterminal 82 = .ok (.lload 7, 2) := by decide +kernel
theorem dX1_passNonterminal_84 : decode cX1_passNonterminal 84 = .ok (.l2i, 1) := by decide +kernel
theorem dX1_passNonterminal_85 : decode cX1_passNonterminal 85 = .ok (.iastore, 1) := by decide +kernel
theorem dX1_passNonterminal_86 : decode cX1_passNonterminal 86 = .ok (.iinc 6 (-1), 3) := by decide +kernel
theorem dX1_passNonterminal_89 : decode cX1_passNonterminal 89 = .ok (.goto (-85), 3) := by decide +kernel
theorem dX1_passNonterminal_92 : decode cX1_passNonterminal 92 = .ok (.return_, 1) := by decide +kernel
theorem dX2_init_0 : decode cX2_init 0 = .ok (.aload_n 0, 1) := by decide +kernel
theorem dX2_init_1 : decode cX2_init 1 = .ok (.invokespecial 5, 3) := by decide +kernel
theorem dX2_init_4 : decode cX2_init 4 = .ok (.aload_n 0, 1) := by decide +kernel
theorem dX2_init_5 : decode cX2_init 5 = .ok (.new 1, 3) := by decide +kernel
theorem dX2_init_8 : decode cX2_init 8 = .ok (.dup, 1) := by decide +kernel
theorem dX2_init_9 : decode cX2_init 9 = .ok (.bipush 81, 2) := by decide +kernel
theorem dX2_init_11 : decode cX2_init 11 = .ok (.invokespecial 13, 3) := by decide +kernel
theorem dX2_init_14 : decode cX2_init 14 = .ok (.putfield 16, 3) := by decide +kernel
theorem dX2_init_17 : decode cX2_init 17 = .ok (.aload_n 0, 1) := by decide +kernel
theorem dX2_init_18 : decode cX2_init 18 = .ok (.sipush 802, 3) := by decide +kernel
theorem dX2_init_21 : decode cX2_init 21 = .ok (.newarray .int, 2) := by decide +kernel
theorem dX2_init_23 : decode cX2_init 23 = .ok (.putfield 20, 3) := by decide +kernel
theorem dX2_init_26 : decode cX2_init 26 = .ok (.aload_n 0, 1) := by decide +kernel
theorem dX2_init_27 : decode cX2_init 27 = .ok (.sipush 7218, 3) := by decide +kernel
theorem dX2_init_30 : decode cX2_init 30 = .ok (.newarray .int, 2) := by decide +kernel
theorem dX2_init_32 : decode cX2_init 32 = .ok (.putfield 24, 3) := by decide +kernel
theorem dX2_init_35 : decode cX2_init 35 = .ok (.aload_n 0, 1) := by decide +kernel
theorem dX2_init_36 : decode cX2_init 36 = .ok (.sipush 400, 3) := by decide +kernel
theorem dX2_init_39 : decode cX2_init 39 = .ok (.newarray .int, 2) := by decide +kernel
theorem dX2_init_41 : decode cX2_init 41 = .ok (.putfield 27, 3) := by decide +kernel
theorem dX2_init_44 : decode cX2_init 44 = .ok (.aload_n 0, 1) := by decide +kernel
theorem dX2_init_45 : decode cX2_init 45 = .ok (.iconst 2, 1) := by decide +kernel
theorem dX2_init_46 : decode cX2_init 46 = .ok (.newarray .int, 2) := by decide +kernel
theorem dX2_init_48 : decode cX2_init 48 = .ok (.putfield 30, 3) := by decide +kernel
theorem dX2_init_51 : decode cX2_init 51 = .ok (.aload_n 0, 1) := by decide +kernel
theorem dX2_init_52 : decode cX2_init 52 = .ok (.iconst 0, 1) := by decide +kernel
theorem dX2_init_53 : decode cX2_init 53 = .ok (.putfield 33, 3) := by decide +kernel
theorem dX2_init_56 : decode cX2_init 56 = .ok (.aload_n 0, 1) := by decide +kernel
theorem dX2_init_57 : decode cX2_init 57 = .ok (.iconst 0, 1) := by decide +kernel
theorem dX2_init_58 : decode cX2_init 58 = .ok (.putfield 37, 3) := by decide +kernel
theorem dX2_init_61 : decode cX2_init 61 = .ok (.aload_n 0, 1) := by decide +kernel
theorem dX2_init_62 : decode cX2_init 62 = .ok (.iconst 0, 1) := by decide +kernel
theorem dX2_init_63 : decode cX2_init 63 = .ok (.putfield 40, 3) := by decide +kernel
theorem dX2_init_66 : decode cX2_init 66 = .ok (.aload_n 0, 1) := by decide +kernel
theorem dX2_init_67 : decode cX2_init 67 = .ok (.iconst 0, 1) := by decide +kernel
theorem dX2_init_68 : decode cX2_init 68 = .ok (.putfield 44, 3) := by decide +kernel
theorem dX2_init_71 : decode cX2_init 71 = .ok (.aload_n 0, 1) := by decide +kernel
theorem dX2_init_72 : decode cX2_init 72 = .ok (.iconst 0, 1) := by decide +kernel
theorem dX2_init_73 : decode cX2_init 73 = .ok (.putfield 47, 3) := by decide +kernel
theorem dX2_init_76 : decode cX2_init 76 = .ok (.aload_n 0, 1) := by decide +kernel
theorem dX2_init_77 : decode cX2_init 77 = .ok (.iconst 0, 1) := by decide +kernel
theorem dX2_init_78 : decode cX2_init 78 = .ok (.putfield 50, 3) := by decide +kernel
theorem dX2_init_81 : decode cX2_init 81 = .ok (.iconst 0, 1) := by decide +kernel
theorem dX2_init_82 : decode cX2_init 82 = .ok (.istore_n 1, 1) := by decide +kernel
theorem dX2_init_83 : decode cX2_init 83 = .ok (.iload_n 1, 1) := by decide +kernel
theorem dX2_init_84 : decode cX2_init 84 = .ok (.bipush 9, 2) := by decide +kernel
theorem dX2_init_86 : decode cX2_init 86 = .ok (.if_icmp .ge 38, 3) := by decide +kernel
theorem dX2_init_89 : decode cX2_init 89 = .ok (.iload_n 1, 1) := by decide +kernel
theorem dX2_init_90 : decode cX2_init 90 = .ok (.istore_n 2, 1) := by decide +kernel
theorem dX2_init_91 : decode cX2_init 91 = .ok (.iload_n 2, 1) := by decide +kernel
theorem dX2_init_92 : decode cX2_init 92 = .ok (.bipush 9, 2) := by decide +kernel
theorem dX2_init_94 : decode cX2_init 94 = .ok (.if_icmp .ge 24, 3) := by decide +kernel
theorem dX2_init_97 : decode cX2_init 97 = .ok (.aload_n 0, 1) := by decide +kernel
theorem dX2_init_98 : decode cX2_init 98 = .ok (.getfield 16, 3) := by decide +kernel
theorem dX2_init_101 : decode cX2_init 101 = .ok (.iload_n 1, 1) := by decide +kernel
theorem dX2_init_102 : decode cX2_init 102 = .ok (.iload_n 2, 1) := by decide +kernel
theorem dX2_init_103 : decode cX2_init 103 = .ok (.iload_n 1, 1) := by decide +kernel
theorem dX2_init_104 : decode cX2_init 104 = .ok (.bipush 9, 2) := by decide +kernel
theorem dX2_init_106 : decode cX2_init 106 = .ok (.imul, 1) := by decide +kernel
theorem dX2_init_107 : decode cX2_init 107 = .ok (.iload_n 2, 1) := by decide +kernel
theorem dX2_init_108 : decode cX2_init 108 = .ok (.iadd, 1) := by decide +kernel
theorem dX2_init_109 : decode cX2_init 109 = .ok (.invokevirtual 53, 3) := by decide +kernel
theorem dX2_init_112 : decode cX2_init 112 = .ok (.iinc 2 1, 3) := by decide +kernel
theorem dX2_init_115 : decode cX2_init 115 = .ok (.goto (-24), 3) := by decide +kernel
theorem dX2_init_118 : decode cX2_init 118 = .ok (.iinc 1 1, 3) := by decide +kernel
theorem dX2_init_121 : decode cX2_init 121 = .ok (.goto (-38), 3) := by decide +kernel
theorem dX2_init_124 : decode cX2_init 124 = .ok (.return_, 1) := by decide +kernel
theorem dX2_forget_0 : decode cX2_forget 0 = .ok (.aload_n 0, 1) := by decide +kernel
theorem dX2_forget_1 : decode cX2_forget 1 = .ok (.iconst 0, 1) := by decide +kernel
theorem dX2_forget_2 : decode cX2_forget 2 = .ok (.putfield 33, 3) := by decide +kernel
theorem dX2_forget_5 : decode cX2_forget 5 = .ok (.aload_n 0, 1) := by decide +kernel
theorem dX2_forget_6 : decode cX2_forget 6 = .ok (.iconst 0, 1) := by decide +kernel
theorem dX2_forget_7 : decode cX2_forget 7 = .ok (.putfield 37, 3) := by decide +kernel
theorem dX2_forget_10 : decode cX2_forget 10 = .ok (.return_, 1) := by decide +kernel
theorem dX2_total_0 : decode cX2_total 0 = .ok (.aload_n 0, 1) := by decide +kernel
theorem dX2_total_1 : decode cX2_total 1 = .ok (.getfield 33, 3) := by decide +kernel
theorem dX2_total_4 : decode cX2_total 4 = .ok (.ifCond .ne 133, 3) := by decide +kernel
theorem dX2_total_7 : decode cX2_total 7 = .ok (.aload_n 3, 1) := by decide +kernel
theorem dX2_total_8 : decode cX2_total 8 = .ok (.invokevirtual 57, 3) := by decide +kernel
theorem dX2_total_11 : decode cX2_total 11 = .ok (.bipush 8, 2) := by decide +kernel
theorem dX2_total_13 : decode cX2_total 13 = .ok (.if_icmp .gt 124, 3) := by decide +kernel
theorem dX2_total_16 : decode cX2_total 16 = .ok (.aload_n 0, 1) := by decide +kernel
theorem dX2_total_17 : decode cX2_total 17 = .ok (.aload_n 3, 1) := by decide +kernel
theorem dX2_total_18 : decode cX2_total 18 = .ok (.invokevirtual 57, 3) := by decide +kernel
theorem dX2_total_21 : decode cX2_total 21 = .ok (.putfield 40, 3) := by decide +kernel
theorem dX2_total_24 : decode cX2_total 24 = .ok (.iconst 0, 1) := by decide +kernel
theorem dX2_total_25 : decode cX2_total 25 = .ok (.istore 4, 2) := by decide +kernel
theorem dX2_total_27 : decode cX2_total 27 = .ok (.iload 4, 2) := by decide +kernel
theorem dX2_total_29 : decode cX2_total 29 = .ok (.aload_n 0, 1) := by decide +kernel
theorem dX2_total_30 : decode cX2_total 30 = .ok (.getfield 40, 3) := by decide +kernel
theorem dX2_total_33 : decode cX2_total 33 = .ok (.if_icmp .ge 24, 3) := by decide +kernel
theorem dX2_total_36 : decode cX2_total 36 = .ok (.aload_n 0, 1) := by decide +kernel
theorem dX2_total_37 : decode cX2_total 37 = .ok (.getfield 16, 3) := by decide +kernel
theorem dX2_total_40 : decode cX2_total 40 = .ok (.iload 4, 2) := by decide +kernel
theorem dX2_total_42 : decode cX2_total 42 = .ok (.aload_n 3, 1) := by decide +kernel
theorem dX2_total_43 : decode cX2_total 43 = .ok (.iload 4, 2) := by decide +kernel
theorem dX2_total_45 : decode cX2_total 45 = .ok (.invokevirtual 62, 3) := by decide +kernel
theorem dX2_total_48 : decode cX2_total 48 = .ok (.invokevirtual 66, 3) := by decide +kernel
theorem dX2_total_51 : decode cX2_total 51 = .ok (.iinc 4 1, 3) := by decide +kernel
theorem dX2_total_54 : decode cX2_total 54 = .ok (.goto (-27), 3) := by decide +kernel
theorem dX2_total_57 : decode cX2_total 57 = .ok (.iconst 0, 1) := by decide +kernel
theorem dX2_total_58 : decode cX2_total 58 = .ok (.istore 4, 2) := by decide +kernel
theorem dX2_total_60 : decode cX2_total 60 = .ok (.iload 4, 2) := by decide +kernel
theorem dX2_total_62 : decode cX2_total 62 = .ok (.aload_n 0, 1) := by decide +kernel
theorem dX2_total_63 : decode cX2_total 63 = .ok (.getfield 40, 3) := by decide +kernel
theorem dX2_total_66 : decode cX2_total 66 = .ok (.if_icmp .gt 46, 3) := by decide +kernel
theorem dX2_total_69 : decode cX2_total 69 = .ok (.iconst 0, 1) := by decide +kernel
theorem dX2_total_70 : decode cX2_total 70 = .ok (.istore 5, 2) := by decide +kernel
theorem dX2_total_72 : decode cX2_total 72 = .ok (.iload 5, 2) := by decide +kernel
theorem dX2_total_74 : decode cX2_total 74 = .ok (.iload 4, 2) := by decide +kernel
theorem dX2_total_76 : decode cX2_total 76 = .ok (.iadd, 1) := by decide +kernel
theorem dX2_total_77 : decode cX2_total 77 = .ok (.aload_n 0, 1) := by decide +kernel
theorem dX2_total_78 : decode cX2_total 78 = .ok (.getfield 40, 3) := by decide +kernel
theorem dX2_total_81 : decode cX2_total 81 = .ok (.if_icmp .gt 25, 3) := by decide +kernel
theorem dX2_total_84 : decode cX2_total 84 = .ok (.aload_n 0, 1) := by decide +kernel
theorem dX2_total_85 : decode cX2_total 85 = .ok (.getfield 16, 3) := by decide +kernel
theorem dX2_total_88 : decode cX2_total 88 = .ok (.aload_n 1, 1) := by decide +kernel
theorem dX2_total_89 : decode cX2_total 89 = .ok (.aload_n 2, 1) := by decide +kernel
theorem dX2_total_90 : decode cX2_total 90 = .ok (.iload 5, 2) := by decide +kernel
theorem dX2_total_92 : decode cX2_total 92 = .ok (.iload 5, 2) := by decide +kernel
theorem dX2_total_94 : decode cX2_total 94 = .ok (.iload 4, 2) := by decide +kernel
theorem dX2_total_96 : decode cX2_total 96 = .ok (.iadd, 1) := by decide +kernel
theorem dX2_total_97 : decode cX2_total 97 = .ok (.invokevirtual 70, 3) := by decide +kernel
theorem dX2_total_100 : decode cX2_total 100 = .ok (.iinc 5 1, 3) := by decide +kernel
theorem dX2_total_103 : decode cX2_total 103 = .ok (.goto (-31), 3) := by decide +kernel
theorem dX2_total_106 : decode cX2_total 106 = .ok (.iinc 4 1, 3) := by decide +kernel
theorem dX2_total_109 : decode cX2_total 109 = .ok (.goto (-49), 3) := by decide +kernel
theorem dX2_total_112 : decode cX2_total 112 = .ok (.aload_n 0, 1) := by decide +kernel
theorem dX2_total_113 : decode cX2_total 113 = .ok (.aload_n 0, 1) := by decide +kernel
theorem dX2_total_114 : decode cX2_total 114 = .ok (.getfield 16, 3) := by decide +kernel
theorem dX2_total_117 : decode cX2_total 117 = .ok (.aload_n 1, 1) := by decide +kernel
theorem dX2_total_118 : decode cX2_total 118 = .ok (.invokevirtual 74, 3) := by decide +kernel
theorem dX2_total_121 : decode cX2_total 121 = .ok (.iconst 0, 1) := by decide +kernel
theorem dX2_total_122 : decode cX2_total 122 = .ok (.aload_n 0, 1) := by decide +kernel
theorem dX2_total_123 : decode cX2_total 123 = .ok (.getfield 40, 3) := by decide +kernel
theorem dX2_total_126 : decode cX2_total 126 = .ok (.invokevirtual 79, 3) := by decide +kernel
theorem dX2_total_129 : decode cX2_total 129 = .ok (.putfield 44, 3) := by decide +kernel
theorem dX2_total_132 : decode cX2_total 132 = .ok (.aload_n 0, 1) := by decide +kernel
theorem dX2_total_133 : decode cX2_total 133 = .ok (.iconst 1, 1) := by decide +kernel
theorem dX2_total_134 : decode cX2_total 134 = .ok (.putfield 33, 3) := by decide +kernel
theorem dX2_total_137 : decode cX2_total 137 = .ok (.aload_n 0, 1) := by decide +kernel
theorem dX2_total_138 : decode cX2_total 138 = .ok (.getfield 44, 3) := by decide +kernel
theorem dX2_total_141 : decode cX2_total 141 = .ok (.ireturn, 1) := by decide +kernel
theorem dX2_stepAt_0 : decode cX2_stepAt 0 = .ok (.aload_n 0, 1) := by decide +kernel
theorem dX2_stepAt_1 : decode cX2_stepAt 1 = .ok (.getfield 37, 3) := by decide +kernel
theorem dX2_stepAt_4 : decode cX2_stepAt 4 = .ok (.ifCond .ne 55, 3) := by decide +kernel
theorem dX2_stepAt_7 : decode cX2_stepAt 7 = .ok (.aload_n 0, 1) := by decide +kernel
theorem dX2_stepAt_8 : decode cX2_stepAt 8 = .ok (.getfield 30, 3) := by decide +kernel
theorem dX2_stepAt_11 : decode cX2_stepAt 11 = .ok (.iconst 0, 1) := by decide +kernel
theorem dX2_stepAt_12 : decode cX2_stepAt 12 = .ok (.aload_n 0, 1) := by decide +kernel
theorem dX2_stepAt_13 : decode cX2_stepAt 13 = .ok (.getfield 44, 3) := by decide +kernel
theorem dX2_stepAt_16 : decode cX2_stepAt 16 = .ok (.ifCond .le 12, 3) := by decide +kernel
theorem dX2_stepAt_19 : decode cX2_stepAt 19 = .ok (.aload_n 0, 1) := by decide +kernel
theorem dX2_stepAt_20 : decode cX2_stepAt 20 = .ok (.aload_n 1, 1) := by decide +kernel
theorem dX2_stepAt_21 : decode cX2_stepAt 21 = .ok (.iconst 0, 1) := by decide +kernel
theorem dX2_stepAt_22 : decode cX2_stepAt 22 = .ok (.invokevirtual 83, 3) := by decide +kernel
theorem dX2_stepAt_25 : decode cX2_stepAt 25 = .ok (.goto 4, 3) := by decide +kernel
theorem dX2_stepAt_28 : decode cX2_stepAt 28 = .ok (.iconst 0, 1) := by decide +kernel
theorem dX2_stepAt_29 : decode cX2_stepAt 29 = .ok (.iastore, 1) := by decide +kernel
theorem dX2_stepAt_30 : decode cX2_stepAt 30 = .ok (.aload_n 0, 1) := by decide +kernel
theorem dX2_stepAt_31 : decode cX2_stepAt 31 = .ok (.getfield 30, 3) := by decide +kernel
theorem dX2_stepAt_34 : decode cX2_stepAt 34 = .ok (.iconst 1, 1) := by decide +kernel
theorem dX2_stepAt_35 : decode cX2_stepAt 35 = .ok (.aload_n 0, 1) := by decide +kernel
theorem dX2_stepAt_36 : decode cX2_stepAt 36 = .ok (.getfield 44, 3) := by decide +kernel
theorem dX2_stepAt_39 : decode cX2_stepAt 39 = .ok (.iconst 1, 1) := by decide +kernel
theorem dX2_stepAt_40 : decode cX2_stepAt 40 = .ok (.if_icmp .le 12, 3) := by decide +kernel
theorem dX2_stepAt_43 : decode cX2_stepAt 43 = .ok (.aload_n 0, 1) := by decide +kernel
theorem dX2_stepAt_44 : decode cX2_stepAt 44 = .ok (.aload_n 1, 1) := by decide +kernel
theorem dX2_stepAt_45 : decode cX2_stepAt 45 = .ok (.iconst 1, 1) := by decide +kernel
theorem dX2_stepAt_46 : decode cX2_stepAt 46 = .ok (.invokevirtual 83, 3) := by decide +kernel
theorem dX2_stepAt_49 : decode cX2_stepAt 49 = .ok (.goto 4, 3) := by decide +kernel
theorem dX2_stepAt_52 : decode cX2_stepAt 52 = .ok (.iconst 0, 1) := by decide +kernel
theorem dX2_stepAt_53 : decode cX2_stepAt 53 = .ok (.iastore, 1) := by decide +kernel
theorem dX2_stepAt_54 : decode cX2_stepAt 54 = .ok (.aload_n 0, 1) := by decide +kernel
theorem dX2_stepAt_55 : decode cX2_stepAt 55 = .ok (.iconst 1, 1) := by decide +kernel
theorem dX2_stepAt_56 : decode cX2_stepAt 56 = .ok (.putfield 37, 3) := by decide +kernel
theorem dX2_stepAt_59 : decode cX2_stepAt 59 = .ok (.iload_n 3, 1) := by decide +kernel
theorem dX2_stepAt_60 : decode cX2_stepAt 60 = .ok (.aload_n 0, 1) := by decide +kernel
theorem dX2_stepAt_61 : decode cX2_stepAt 61 = .ok (.getfield 30, 3) := by decide +kernel
theorem dX2_stepAt_64 : decode cX2_stepAt 64 = .ok (.iload_n 2, 1) := by decide +kernel
theorem dX2_stepAt_65 : decode cX2_stepAt 65 = .ok (.iaload, 1) := by decide +kernel
theorem dX2_stepAt_66 : decode cX2_stepAt 66 = .ok (.if_icmp .ge 18, 3) := by decide +kernel
theorem dX2_stepAt_69 : decode cX2_stepAt 69 = .ok (.aload_n 0, 1) := by decide +kernel
theorem dX2_stepAt_70 : decode cX2_stepAt 70 = .ok (.getfield 27, 3) := by decide +kernel
theorem dX2_stepAt_73 : decode cX2_stepAt 73 = .ok (.iload_n 2, 1) := by decide +kernel
theorem dX2_stepAt_74 : decode cX2_stepAt 74 = .ok (.sipush 200, 3) := by decide +kernel
theorem dX2_stepAt_77 : decode cX2_stepAt 77 = .ok (.imul, 1) := by decide +kernel
theorem dX2_stepAt_78 : decode cX2_stepAt 78 = .ok (.iload_n 3, 1) := by decide +kernel
theorem dX2_stepAt_79 : decode cX2_stepAt 79 = .ok (.iadd, 1) := by decide +kernel
theorem dX2_stepAt_80 : decode cX2_stepAt 80 = .ok (.iaload, 1) := by decide +kernel
theorem dX2_stepAt_81 : decode cX2_stepAt 81 = .ok (.goto 5, 3) := by decide +kernel
theorem dX2_stepAt_84 : decode cX2_stepAt 84 = .ok (.bipush (-9), 2) := by decide +kernel
theorem dX2_stepAt_86 : decode cX2_stepAt 86 = .ok (.ireturn, 1) := by decide +kernel
theorem dX2_list_0 : decode cX2_list 0 = .ok (.iconst 0, 1) := by decide +kernel
theorem dX2_list_1 : decode cX2_list 1 = .ok (.istore_n 3, 1) := by decide +kernel
theorem dX2_list_2 : decode cX2_list 2 = .ok (.iconst 0, 1) := by decide +kernel
theorem dX2_list_3 : decode cX2_list 3 = .ok (.istore 4, 2) := by decide +kernel
theorem dX2_list_5 : decode cX2_list 5 = .ok (.aload_n 0, 1) := by decide +kernel
theorem dX2_list_6 : decode cX2_list 6 = .ok (.iload_n 2, 1) := by decide +kernel
theorem dX2_list_7 : decode cX2_list 7 = .ok (.putfield 50, 3) := by decide +kernel
theorem dX2_list_10 : decode cX2_list 10 = .ok (.aload_n 0, 1) := by decide +kernel
theorem dX2_list_11 : decode cX2_list 11 = .ok (.bipush 10, 2) := by decide +kernel
theorem dX2_list_13 : decode cX2_list 13 = .ok (.aload_n 1, 1) := by decide +kernel
theorem dX2_list_14 : decode cX2_list 14 = .ok (.invokevirtual 74, 3) := by decide +kernel
theorem dX2_list_17 : decode cX2_list 17 = .ok (.iadd, 1) := by decide +kernel
theorem dX2_list_18 : decode cX2_list 18 = .ok (.invokevirtual 87, 3) := by decide +kernel
theorem dX2_list_21 : decode cX2_list 21 = .ok (.iconst 0, 1) := by decide +kernel
theorem dX2_list_22 : decode cX2_list 22 = .ok (.istore 5, 2) := by decide +kernel
theorem dX2_list_24 : decode cX2_list 24 = .ok (.iload 5, 2) := by decide +kernel
theorem dX2_list_26 : decode cX2_list 26 = .ok (.sipush 208, 3) := by decide +kernel
theorem dX2_list_29 : decode cX2_list 29 = .ok (.if_icmp .ge 85, 3) := by decide +kernel
theorem dX2_list_32 : decode cX2_list 32 = .ok (.aload_n 0, 1) := by decide +kernel
theorem dX2_list_33 : decode cX2_list 33 = .ok (.getfield 47, 3) := by decide +kernel
theorem dX2_list_36 : decode cX2_list 36 = .ok (.ifCond .le 78, 3) := by decide +kernel
theorem dX2_list_39 : decode cX2_list 39 = .ok (.iload_n 3, 1) := by decide +kernel
theorem dX2_list_40 : decode cX2_list 40 = .ok (.sipush 200, 3) := by decide +kernel
theorem dX2_list_43 : decode cX2_list 43 = .ok (.if_icmp .ge 71, 3) := by decide +kernel
theorem dX2_list_46 : decode cX2_list 46 = .ok (.aload_n 0, 1) := by decide +kernel
theorem dX2_list_47 : decode cX2_list 47 = .ok (.getfield 20, 3) := by decide +kernel
theorem dX2_list_50 : decode cX2_list 50 = .ok (.aload_n 0, 1) := by decide +kernel
theorem dX2_list_51 : decode cX2_list 51 = .ok (.getfield 47, 3) := by decide +kernel
theorem dX2_list_54 : decode cX2_list 54 = .ok (.iaload, 1) := by decide +kernel
theorem dX2_list_55 : decode cX2_list 55 = .ok (.istore 6, 2) := by decide +kernel
theorem dX2_list_57 : decode cX2_list 57 = .ok (.aload_n 0, 1) := by decide +kernel
theorem dX2_list_58 : decode cX2_list 58 = .ok (.dup, 1) := by decide +kernel
theorem dX2_list_59 : decode cX2_list 59 = .ok (.getfield 47, 3) := by decide +kernel
theorem dX2_list_62 : decode cX2_list 62 = .ok (.iconst 1, 1) := by decide +kernel
theorem dX2_list_63 : decode cX2_list 63 = .ok (.isub, 1) := by decide +kernel
theorem dX2_list_64 : decode cX2_list 64 = .ok (.putfield 47, 3) := by decide +kernel
theorem dX2_list_67 : decode cX2_list 67 = .ok (.iload 6, 2) := by decide +kernel
theorem dX2_list_69 : decode cX2_list 69 = .ok (.invokestatic 90, 3) := by decide +kernel
theorem dX2_list_72 : decode cX2_list 72 = .ok (.ifCond .eq 9, 3) := by decide +kernel
theorem dX2_list_75 : decode cX2_list 75 = .ok (.iinc 4 1, 3) := by decide +kernel
theorem dX2_list_78 : decode cX2_list 78 = .ok (.goto 30, 3) := by decide +kernel
theorem dX2_list_81 : decode cX2_list 81 = .ok (.aload_n 0, 1) := by decide +kernel
theorem dX2_list_82 : decode cX2_list 82 = .ok (.getfield 27, 3) := by decide +kernel
theorem dX2_list_85 : decode cX2_list 85 = .ok (.iload_n 2, 1) := by decide +kernel
theorem dX2_list_86 : decode cX2_list 86 = .ok (.sipush 200, 3) := by decide +kernel
theorem dX2_list_89 : decode cX2_list 89 = .ok (.imul, 1) := by decide +kernel
theorem dX2_list_90 : decode cX2_list 90 = .ok (.iload_n 3, 1) := by decide +kernel
theorem dX2_list_91 : decode cX2_list 91 = .ok (.iadd, 1) := by decide +kernel
theorem dX2_list_92 : decode cX2_list 92 = .ok (.aload_n 0, 1) := by decide +kernel
theorem dX2_list_93 : decode cX2_list 93 = .ok (.aload_n 1, 1) := by decide +kernel
theorem dX2_list_94 : decode cX2_list 94 = .ok (.iload 6, 2) := by decide +kernel
theorem dX2_list_96 : decode cX2_list 96 = .ok (.bipush 10, 2) := by decide +kernel
theorem dX2_list_98 : decode cX2_list 98 = .ok (.isub, 1) := by decide +kernel
theorem dX2_list_99 : decode cX2_list 99 = .ok (.iload 4, 2) := by decide +kernel
theorem dX2_list_101 : decode cX2_list 101 = .ok (.invokevirtual 94, 3) := by decide +kernel
theorem dX2_list_104 : decode cX2_list 104 = .ok (.iastore, 1) := by decide +kernel
theorem dX2_list_105 : decode cX2_list 105 = .ok (.iinc 3 1, 3) := by decide +kernel
theorem dX2_list_108 : decode cX2_list 108 = .ok (.iinc 5 1, 3) := by decide +kernel
theorem dX2_list_111 : decode cX2_list 111 = .ok (.goto (-87), 3) := by decide +kernel
theorem dX2_list_114 : decode cX2_list 114 = .ok (.iload_n 3, 1) := by decide +kernel
theorem dX2_list_115 : decode cX2_list 115 = .ok (.ireturn, 1) := by decide +kernel
theorem dX2_startStack_0 : decode cX2_startStack 0 = .ok (.iconst 0, 1) := by decide +kernel
theorem dX2_startStack_1 : decode cX2_startStack 1 = .ok (.istore_n 2, 1) := by decide +kernel
theorem dX2_startStack_2 : decode cX2_startStack 2 = .ok (.iload_n 2, 1) := by decide +kernel
theorem dX2_startStack_3 : decode cX2_startStack 3 = .ok (.aload_n 0, 1) := by decide +kernel
theorem dX2_startStack_4 : decode cX2_startStack 4 = .ok (.getfield 40, 3) := by decide +kernel
theorem dX2_startStack_7 : decode cX2_startStack 7 = .ok (.if_icmp .gt 28, 3) := by decide +kernel
theorem dX2_startStack_10 : decode cX2_startStack 10 = .ok (.aload_n 0, 1) := by decide +kernel
theorem dX2_startStack_11 : decode cX2_startStack 11 = .ok (.getfield 24, 3) := by decide +kernel
theorem dX2_startStack_14 : decode cX2_startStack 14 = .ok (.iload_n 2, 1) := by decide +kernel
theorem dX2_startStack_15 : decode cX2_startStack 15 = .ok (.iload_n 2, 1) := by decide +kernel
theorem dX2_startStack_16 : decode cX2_startStack 16 = .ok (.aload_n 0, 1) := by decide +kernel
theorem dX2_startStack_17 : decode cX2_startStack 17 = .ok (.getfield 40, 3) := by decide +kernel
theorem dX2_startStack_20 : decode cX2_startStack 20 = .ok (.if_icmp .ne 7, 3) := by decide +kernel
theorem dX2_startStack_23 : decode cX2_startStack 23 = .ok (.iconst 1, 1) := by decide +kernel
theorem dX2_startStack_24 : decode cX2_startStack 24 = .ok (.goto 4, 3) := by decide +kernel
theorem dX2_startStack_27 : decode cX2_startStack 27 = .ok (.iconst 0, 1) := by decide +kernel
theorem dX2_startStack_28 : decode cX2_startStack 28 = .ok (.iastore, 1) := by decide +kernel
theorem dX2_startStack_29 : decode cX2_startStack 29 = .ok (.iinc 2 1, 3) := by decide +kernel
theorem dX2_startStack_32 : decode cX2_startStack 32 = .ok (.goto (-30), 3) := by decide +kernel
theorem dX2_startStack_35 : decode cX2_startStack 35 = .ok (.aload_n 0, 1) := by decide +kernel
theorem dX2_startStack_36 : decode cX2_startStack 36 = .ok (.iconst 0, 1) := by decide +kernel
theorem dX2_startStack_37 : decode cX2_startStack 37 = .ok (.putfield 47, 3) := by decide +kernel
theorem dX2_startStack_40 : decode cX2_startStack 40 = .ok (.aload_n 0, 1) := by decide +kernel
theorem dX2_startStack_41 : decode cX2_startStack 41 = .ok (.iload_n 1, 1) := by decide +kernel
theorem dX2_startStack_42 : decode cX2_startStack 42 = .ok (.iconst 0, 1) := by decide +kernel
theorem dX2_startStack_43 : decode cX2_startStack 43 = .ok (.invokevirtual 98, 3) := by decide +kernel
theorem dX2_startStack_46 : decode cX2_startStack 46 = .ok (.return_, 1) := by decide +kernel
theorem dX2_replace_0 : decode cX2_replace 0 = .ok (.aload_n 0, 1) := by decide +kernel
theorem dX2_replace_1 : decode cX2_replace 1 = .ok (.getfield 47, 3) := by decide +kernel
theorem dX2_replace_4 : decode cX2_replace 4 = .ok (.istore 4, 2) := by decide +kernel
theorem dX2_replace_6 : decode cX2_replace 6 = .ok (.aload_n 1, 1) := by decide +kernel
theorem dX2_replace_7 : decode cX2_replace 7 = .ok (.iload_n 2, 1) := by decide +kernel
theorem dX2_replace_8 : decode cX2_replace 8 = .ok (.invokevirtual 101, 3) := by decide +kernel
theorem dX2_replace_11 : decode cX2_replace 11 = .ok (.istore 5, 2) := by decide +kernel
theorem dX2_replace_13 : decode cX2_replace 13 = .ok (.iload 5, 2) := by decide +kernel
theorem dX2_replace_15 : decode cX2_replace 15 = .ok (.aload_n 1, 1) := by decide +kernel
theorem dX2_replace_16 : decode cX2_replace 16 = .ok (.iload_n 2, 1) := by decide +kernel
theorem dX2_replace_17 : decode cX2_replace 17 = .ok (.invokevirtual 104, 3) := by decide +kernel
theorem dX2_replace_20 : decode cX2_replace 20 = .ok (.if_icmp .ge 88, 3) := by decide +kernel
theorem dX2_replace_23 : decode cX2_replace 23 = .ok (.aload_n 1, 1) := by decide +kernel
theorem dX2_replace_24 : decode cX2_replace 24 = .ok (.iload 5, 2) := by decide +kernel
theorem dX2_replace_26 : decode cX2_replace 26 = .ok (.invokevirtual 107, 3) := by decide +kernel
theorem dX2_replace_29 : decode cX2_replace 29 = .ok (.iconst 1, 1) := by decide +kernel
theorem dX2_replace_30 : decode cX2_replace 30 = .ok (.isub, 1) := by decide +kernel
theorem dX2_replace_31 : decode cX2_replace 31 = .ok (.istore 6, 2) := by decide +kernel
theorem dX2_replace_33 : decode cX2_replace 33 = .ok (.iload 6, 2) := by decide +kernel
theorem dX2_replace_35 : decode cX2_replace 35 = .ok (.ifCond .lt 22, 3) := by decide +kernel
theorem dX2_replace_38 : decode cX2_replace 38 = .ok (.aload_n 0, 1) := by decide +kernel
theorem dX2_replace_39 : decode cX2_replace 39 = .ok (.aload_n 1, 1) := by decide +kernel
theorem dX2_replace_40 : decode cX2_replace 40 = .ok (.iload 5, 2) := by decide +kernel
theorem dX2_replace_42 : decode cX2_replace 42 = .ok (.iload 6, 2) := by decide +kernel
theorem dX2_replace_44 : decode cX2_replace 44 = .ok (.invokevirtual 110, 3) := by decide +kernel
theorem dX2_replace_47 : decode cX2_replace 47 = .ok (.iload_n 3, 1) := by decide +kernel
theorem dX2_replace_48 : decode cX2_replace 48 = .ok (.invokevirtual 98, 3) := by decide +kernel
theorem dX2_replace_51 : decode cX2_replace 51 = .ok (.iinc 6 (-1), 3) := by decide +kernel
theorem dX2_replace_54 : decode cX2_replace 54 = .ok (.goto (-21), 3) := by decide +kernel
theorem dX2_replace_57 : decode cX2_replace 57 = .ok (.aload_n 0, 1) := by decide +kernel
theorem dX2_replace_58 : decode cX2_replace 58 = .ok (.getfield 24, 3) := by decide +kernel
theorem dX2_replace_61 : decode cX2_replace 61 = .ok (.aload_n 0, 1) := by decide +kernel
theorem dX2_replace_62 : decode cX2_replace 62 = .ok (.getfield 47, 3) := by decide +kernel
theorem dX2_replace_65 : decode cX2_replace 65 = .ok (.bipush 9, 2) := by decide +kernel
theorem dX2_replace_67 : decode cX2_replace 67 = .ok (.imul, 1) := by decide +kernel
theorem dX2_replace_68 : decode cX2_replace 68 = .ok (.iload_n 3, 1) := by decide +kernel
theorem dX2_replace_69 : decode cX2_replace 69 = .ok (.iadd, 1) := by decide +kernel
theorem dX2_replace_70 : decode cX2_replace 70 = .ok (.iaload, 1) := by decide +kernel
theorem dX2_replace_71 : decode cX2_replace 71 = .ok (.istore 6, 2) := by decide +kernel
theorem dX2_replace_73 : decode cX2_replace 73 = .ok (.aload_n 0, 1) := by decide +kernel
theorem dX2_replace_74 : decode cX2_replace 74 = .ok (.getfield 50, 3) := by decide +kernel
theorem dX2_replace_77 : decode cX2_replace 77 = .ok (.iload 6, 2) := by decide +kernel
theorem dX2_replace_79 : decode cX2_replace 79 = .ok (.if_icmp .ge 6, 3) := by decide +kernel
theorem dX2_replace_82 : decode cX2_replace 82 = .ok (.iload 5, 2) := by decide +kernel
theorem dX2_replace_84 : decode cX2_replace 84 = .ok (.ireturn, 1) := by decide +kernel
theorem dX2_replace_85 : decode cX2_replace 85 = .ok (.aload_n 0, 1) := by decide +kernel
theorem dX2_replace_86 : decode cX2_replace 86 = .ok (.dup, 1) := by decide +kernel
theorem dX2_replace_87 : decode cX2_replace 87 = .ok (.getfield 50, 3) := by decide +kernel
theorem dX2_replace_90 : decode cX2_replace 90 = .ok (.iload 6, 2) := by decide +kernel
theorem dX2_replace_92 : decode cX2_replace 92 = .ok (.isub, 1) := by decide +kernel
theorem dX2_replace_93 : decode cX2_replace 93 = .ok (.putfield 50, 3) := by decide +kernel
theorem dX2_replace_96 : decode cX2_replace 96 = .ok (.aload_n 0, 1) := by decide +kernel
theorem dX2_replace_97 : decode cX2_replace 97 = .ok (.iload 4, 2) := by decide +kernel
theorem dX2_replace_99 : decode cX2_replace 99 = .ok (.putfield 47, 3) := by decide +kernel
theorem dX2_replace_102 : decode cX2_replace 102 = .ok (.iinc 5 1, 3) := by decide +kernel
theorem dX2_replace_105 : decode cX2_replace 105 = .ok (.goto (-92), 3) := by decide +kernel
theorem dX2_replace_108 : decode cX2_replace 108 = .ok (.bipush (-9), 2) := by decide +kernel
theorem dX2_replace_110 : decode cX2_replace 110 = .ok (.ireturn, 1) := by decide +kernel
theorem dX2_push_0 : decode cX2_push 0 = .ok (.aload_n 0, 1) := by decide +kernel
theorem dX2_push_1 : decode cX2_push 1 = .ok (.getfield 47, 3) := by decide +kernel
theorem dX2_push_4 : decode cX2_push 4 = .ok (.sipush 801, 3) := by decide +kernel
theorem dX2_push_7 : decode cX2_push 7 = .ok (.if_icmp .lt 4, 3) := by decide +kernel
theorem dX2_push_10 : decode cX2_push 10 = .ok (.return_, 1) := by decide +kernel
theorem dX2_push_11 : decode cX2_push 11 = .ok (.aload_n 0, 1) := by decide +kernel
theorem dX2_push_12 : decode cX2_push 12 = .ok (.getfield 47, 3) := by decide +kernel
theorem dX2_push_15 : decode cX2_push 15 = .ok (.bipush 9, 2) := by decide +kernel
theorem dX2_push_17 : decode cX2_push 17 = .ok (.imul, 1) := by decide +kernel
theorem dX2_push_18 : decode cX2_push 18 = .ok (.istore_n 3, 1) := by decide +kernel
theorem dX2_push_19 : decode cX2_push 19 = .ok (.aload_n 0, 1) := by decide +kernel
theorem dX2_push_20 : decode cX2_push 20 = .ok (.dup, 1) := by decide +kernel
theorem dX2_push_21 : decode cX2_push 21 = .ok (.getfield 47, 3) := by decide +kernel
theorem dX2_push_24 : decode cX2_push 24 = .ok (.iconst 1, 1) := by decide +kernel
theorem dX2_push_25 : decode cX2_push 25 = .ok (.iadd, 1) := by decide +kernel
theorem dX2_push_26 : decode cX2_push 26 = .ok (.putfield 47, 3) := by decide +kernel
theorem dX2_push_29 : decode cX2_push 29 = .ok (.aload_n 0, 1) := by decide +kernel
theorem dX2_push_30 : decode cX2_push 30 = .ok (.getfield 20, 3) := by decide +kernel
theorem dX2_push_33 : decode cX2_push 33 = .ok (.aload_n 0, 1) := by decide +kernel
theorem dX2_push_34 : decode cX2_push 34 = .ok (.getfield 47, 3) := by decide +kernel
theorem dX2_push_37 : decode cX2_push 37 = .ok (.iload_n 1, 1) := by decide +kernel
theorem dX2_push_38 : decode cX2_push 38 = .ok (.iastore, 1) := by decide +kernel
theorem dX2_push_39 : decode cX2_push 39 = .ok (.iload_n 2, 1) := by decide +kernel
theorem dX2_push_40 : decode cX2_push 40 = .ok (.istore 4, 2) := by decide +kernel
theorem dX2_push_42 : decode cX2_push 42 = .ok (.iload 4, 2) := by decide +kernel
theorem dX2_push_44 : decode cX2_push 44 = .ok (.aload_n 0, 1) := by decide +kernel
theorem dX2_push_45 : decode cX2_push 45 = .ok (.getfield 40, 3) := by decide +kernel
theorem dX2_push_48 : decode cX2_push 48 = .ok (.if_icmp .gt 53, 3) := by decide +kernel
theorem dX2_push_51 : decode cX2_push 51 = .ok (.aload_n 0, 1) := by decide +kernel
theorem dX2_push_52 : decode cX2_push 52 = .ok (.getfield 24, 3) := by decide +kernel
theorem dX2_push_55 : decode cX2_push 55 = .ok (.aload_n 0, 1) := by decide +kernel
theorem dX2_push_56 : decode cX2_push 56 = .ok (.getfield 47, 3) := by decide +kernel
theorem dX2_push_59 : decode cX2_push 59 = .ok (.bipush 9, 2) := by decide +kernel
theorem dX2_push_61 : decode cX2_push 61 = .ok (.imul, 1) := by decide +kernel
theorem dX2_push_62 : decode cX2_push 62 = .ok (.iload 4, 2) := by decide +kernel
theorem dX2_push_64 : decode cX2_push 64 = .ok (.iadd, 1) := by decide +kernel
theorem dX2_push_65 : decode cX2_push 65 = .ok (.iload_n 1, 1) := by decide +kernel
theorem dX2_push_66 : decode cX2_push 66 = .ok (.invokestatic 90, 3) := by decide +kernel
theorem dX2_push_69 : decode cX2_push 69 = .ok (.ifCond .eq 14, 3) := by decide +kernel
theorem dX2_push_72 : decode cX2_push 72 = .ok (.aload_n 0, 1) := by decide +kernel
theorem dX2_push_73 : decode cX2_push 73 = .ok (.iload_n 1, 1) := by decide +kernel
theorem dX2_push_74 : decode cX2_push 74 = .ok (.iload 4, 2) := by decide +kernel
theorem dX2_push_76 : decode cX2_push 76 = .ok (.iload_n 3, 1) := by decide +kernel
theorem dX2_push_77 : decode cX2_push 77 = .ok (.invokevirtual 114, 3) := by decide +kernel
theorem dX2_push_80 : decode cX2_push 80 = .ok (.goto 14, 3) := by decide +kernel
theorem dX2_push_83 : decode cX2_push 83 = .ok (.aload_n 0, 1) := by decide +kernel
theorem dX2_push_84 : decode cX2_push 84 = .ok (.iload_n 1, 1) := by decide +kernel
theorem dX2_push_85 : decode cX2_push 85 = .ok (.bipush 10, 2) := by decide +kernel
theorem dX2_push_87 : decode cX2_push 87 = .ok (.isub, 1) := by decide +kernel
theorem dX2_push_88 : decode cX2_push 88 = .ok (.iload 4, 2) := by decide +kernel
theorem dX2_push_90 : decode cX2_push 90 = .ok (.iload_n 3, 1) := by decide +kernel
theorem dX2_push_91 : decode cX2_push 91 = .ok (.invokevirtual 117, 3) := by decide +kernel
theorem dX2_push_94 : decode cX2_push 94 = .ok (.iastore, 1) := by decide +kernel
theorem dX2_push_95 : decode cX2_push 95 = .ok (.iinc 4 1, 3) := by decide +kernel
theorem dX2_push_98 : decode cX2_push 98 = .ok (.goto (-56), 3) := by decide +kernel
theorem dX2_push_101 : decode cX2_push 101 = .ok (.return_, 1) := by decide +kernel
theorem dX2_waysOfLetter_0 : decode cX2_waysOfLetter 0 = .ok (.iload_n 2, 1) := by decide +kernel
theorem dX2_waysOfLetter_1 : decode cX2_waysOfLetter 1 = .ok (.aload_n 0, 1) := by decide +kernel
theorem dX2_waysOfLetter_2 : decode cX2_waysOfLetter 2 = .ok (.getfield 40, 3) := by decide +kernel
theorem dX2_waysOfLetter_5 : decode cX2_waysOfLetter 5 = .ok (.if_icmp .ge 28, 3) := by decide +kernel
theorem dX2_waysOfLetter_8 : decode cX2_waysOfLetter 8 = .ok (.aload_n 0, 1) := by decide +kernel
theorem dX2_waysOfLetter_9 : decode cX2_waysOfLetter 9 = .ok (.getfield 16, 3) := by decide +kernel
theorem dX2_waysOfLetter_12 : decode cX2_waysOfLetter 12 = .ok (.iload_n 2, 1) := by decide +kernel
theorem dX2_waysOfLetter_13 : decode cX2_waysOfLetter 13 = .ok (.invokevirtual 120, 3) := by decide +kernel
theorem dX2_waysOfLetter_16 : decode cX2_waysOfLetter 16 = .ok (.iload_n 1, 1) := by decide +kernel
theorem dX2_waysOfLetter_17 : decode cX2_waysOfLetter 17 = .ok (.if_icmp .ne 16, 3) := by decide +kernel
theorem dX2_waysOfLetter_20 : decode cX2_waysOfLetter 20 = .ok (.aload_n 0, 1) := by decide +kernel
theorem dX2_waysOfLetter_21 : decode cX2_waysOfLetter 21 = .ok (.getfield 24, 3) := by decide +kernel
theorem dX2_waysOfLetter_24 : decode cX2_waysOfLetter 24 = .ok (.iload_n 3, 1) := by decide +kernel
theorem dX2_waysOfLetter_25 : decode cX2_waysOfLetter 25 = .ok (.iload_n 2, 1) := by decide +kernel
theorem dX2_waysOfLetter_26 : decode cX2_waysOfLetter 26 = .ok (.iadd, 1) := by decide +kernel
theorem dX2_waysOfLetter_27 : decode cX2_waysOfLetter 27 = .ok (.iconst 1, 1) := by decide +kernel
theorem dX2_waysOfLetter_28 : decode cX2_waysOfLetter 28 = .ok (.iadd, 1) := by decide +kernel
theorem dX2_waysOfLetter_29 : decode cX2_waysOfLetter 29 = .ok (.iaload, 1) := by decide +kernel
theorem dX2_waysOfLetter_30 : decode cX2_waysOfLetter 30 = .ok (.goto 4, 3) := by decide +kernel
theorem dX2_waysOfLetter_33 : decode cX2_waysOfLetter 33 = .ok (.iconst 0, 1) := by decide +kernel
theorem dX2_waysOfLetter_34 : decode cX2_waysOfLetter 34 = .ok (.ireturn, 1) := by decide +kernel
theorem dX2_waysOfNonterminal_0 : decode cX2_waysOfNonterminal 0 = .ok (.lconst 0, 1) := by decide +kernel
theorem dX2_waysOfNonterminal_1 : decode cX2_waysOfNonterminal 1 = .ok (.lstore 4, 2) := by decide +kernel
theorem dX2_waysOfNonterminal_3 : decode cX2_waysOfNonterminal 3 = .ok (.iload_n 2, 1) := by decide +kernel
theorem dX2_waysOfNonterminal_4 : decode cX2_waysOfNonterminal 4 = .ok (.istore 6, 2) := by decide +kernel
theorem dX2_waysOfNonterminal_6 : decode cX2_waysOfNonterminal 6 = .ok (.iload 6, 2) := by decide +kernel
theorem dX2_waysOfNonterminal_8 : decode cX2_waysOfNonterminal 8 = .ok (.aload_n 0, 1) := by decide +kernel
theorem dX2_waysOfNonterminal_9 : decode cX2_waysOfNonterminal 9 = .ok (.getfield 40, 3) := by decide +kernel
theorem dX2_waysOfNonterminal_12 : decode cX2_waysOfNonterminal 12 = .ok (.if_icmp .gt 55, 3) := by decide +kernel
theorem dX2_waysOfNonterminal_15 : decode cX2_waysOfNonterminal 15 = .ok (.aload_n 0, 1) := by decide +kernel
theorem dX2_waysOfNonterminal_16 : decode cX2_waysOfNonterminal 16 = .ok (.getfield 24, 3) := by decide +kernel
theorem dX2_waysOfNonterminal_19 : decode cX2_waysOfNonterminal 19 = .ok (.iload_n 3, 1) := by decide +kernel
theorem dX2_waysOfNonterminal_20 : decode cX2_waysOfNonterminal 20 = .ok (.iload 6, 2) := by decide +kernel
theorem dX2_waysOfNonterminal_22 : decode cX2_waysOfNonterminal 22 = .ok (.iadd, 1) := by decide +kernel
theorem dX2_waysOfNonterminal_23 : decode cX2_waysOfNonterminal 23 = .ok (.iaload, 1) := by decide +kernel
theorem dX2_waysOfNonterminal_24 : decode cX2_waysOfNonterminal 24 = .ok (.ifCond .eq 37, 3) := by decide +kernel
theorem dX2_waysOfNonterminal_27 : decode cX2_waysOfNonterminal 27 = .ok (.ldc2_w 123, 3) := by decide +kernel
theorem dX2_waysOfNonterminal_30 : decode cX2_waysOfNonterminal 30 = .ok (.lload 4, 2) := by decide +kernel
theorem dX2_waysOfNonterminal_32 : decode cX2_waysOfNonterminal 32 = .ok (.aload_n 0, 1) := by decide +kernel
theorem dX2_waysOfNonterminal_33 : decode cX2_waysOfNonterminal 33 = .ok (.getfield 16, 3) := by decide +kernel
theorem dX2_waysOfNonterminal_36 : decode cX2_waysOfNonterminal 36 = .ok (.iload_n 1, 1) := by decide +kernel
theorem dX2_waysOfNonterminal_37 : decode cX2_waysOfNonterminal 37 = .ok (.iload_n 2, 1) := by decide +kernel
theorem dX2_waysOfNonterminal_38 : decode cX2_waysOfNonterminal 38 = .ok (.iload 6, 2) := by decide +kernel
theorem dX2_waysOfNonterminal_40 : decode cX2_waysOfNonterminal 40 = .ok (.invokevirtual 79, 3) := by decide +kernel
theorem dX2_waysOfNonterminal_43 : decode cX2_waysOfNonterminal 43 = .ok (.i2l, 1) := by decide +kernel
theorem dX2_waysOfNonterminal_44 : decode cX2_waysOfNonterminal 44 = .ok (.aload_n 0, 1) := by decide +kernel
theorem dX2_waysOfNonterminal_45 : decode cX2_waysOfNonterminal 45 = .ok (.getfield 24, 3) := by decide +kernel
theorem dX2_waysOfNonterminal_48 : decode cX2_waysOfNonterminal 48 = .ok (.iload_n 3, 1) := by decide +kernel
theorem dX2_waysOfNonterminal_49 : decode cX2_waysOfNonterminal 49 = .ok (.iload 6, 2) := by decide +kernel
theorem dX2_waysOfNonterminal_51 : decode cX2_waysOfNonterminal 51 = .ok (.iadd, 1) := by decide +kernel
theorem dX2_waysOfNonterminal_52 : decode cX2_waysOfNonterminal 52 = .ok (.iaload, 1) := by decide +kernel
theorem dX2_waysOfNonterminal_53 : decode cX2_waysOfNonterminal 53 = .ok (.i2l, 1) := by decide +kernel
theorem dX2_waysOfNonterminal_54 : decode cX2_waysOfNonterminal 54 = .ok (.lmul, 1) := by decide +kernel
theorem dX2_waysOfNonterminal_55 : decode cX2_waysOfNonterminal 55 = .ok (.ladd, 1) := by decide +kernel
theorem dX2_waysOfNonterminal_56 : decode cX2_waysOfNonterminal 56 = .ok (.invokestatic 125, 3) := by decide +kernel
theorem dX2_waysOfNonterminal_59 : decode cX2_waysOfNonterminal 59 = .ok (.lstore 4, 2) := by decide +kernel
theorem dX2_waysOfNonterminal_61 : decode cX2_waysOfNonterminal 61 = .ok (.iinc 6 1, 3) := by decide +kernel
theorem dX2_waysOfNonterminal_64 : decode cX2_waysOfNonterminal 64 = .ok (.goto (-58), 3) := by decide +kernel
theorem dX2_waysOfNonterminal_67 : decode cX2_waysOfNonterminal 67 = .ok (.lload 4, 2) := by decide +kernel
theorem dX2_waysOfNonterminal_69 : decode cX2_waysOfNonterminal 69 = .ok (.l2i, 1) := by decide +kernel
theorem dX2_waysOfNonterminal_70 : decode cX2_waysOfNonterminal 70 = .ok (.ireturn, 1) := by decide +kernel
theorem dX3_init_0 : decode cX3_init 0 = .ok (.aload_n 0, 1) := by decide +kernel
theorem dX3_init_1 : decode cX3_init 1 = .ok (.invokespecial 3, 3) := by decide +kernel
theorem dX3_init_4 : decode cX3_init 4 = .ok (.aload_n 0, 1) := by decide +kernel
theorem dX3_init_5 : decode cX3_init 5 = .ok (.new 9, 3) := by decide +kernel
theorem dX3_init_8 : decode cX3_init 8 = .ok (.dup, 1) := by decide +kernel
theorem dX3_init_9 : decode cX3_init 9 = .ok (.invokespecial 11, 3) := by decide +kernel
theorem dX3_init_12 : decode cX3_init 12 = .ok (.putfield 12, 3) := by decide +kernel
theorem dX3_init_15 : decode cX3_init 15 = .ok (.aload_n 0, 1) := by decide +kernel
theorem dX3_init_16 : decode cX3_init 16 = .ok (.iconst 5, 1) := by decide +kernel
theorem dX3_init_17 : decode cX3_init 17 = .ok (.invokestatic 18, 3) := by decide +kernel
theorem dX3_init_20 : decode cX3_init 20 = .ok (.putfield 22, 3) := by decide +kernel
theorem dX3_init_23 : decode cX3_init 23 = .ok (.aload_n 0, 1) := by decide +kernel
theorem dX3_init_24 : decode cX3_init 24 = .ok (.bipush 6, 2) := by decide +kernel
theorem dX3_init_26 : decode cX3_init 26 = .ok (.invokestatic 18, 3) := by decide +kernel
theorem dX3_init_29 : decode cX3_init 29 = .ok (.putfield 26, 3) := by decide +kernel
theorem dX3_init_32 : decode cX3_init 32 = .ok (.aload_n 0, 1) := by decide +kernel
theorem dX3_init_33 : decode cX3_init 33 = .ok (.bipush 6, 2) := by decide +kernel
theorem dX3_init_35 : decode cX3_init 35 = .ok (.invokestatic 18, 3) := by decide +kernel
theorem dX3_init_38 : decode cX3_init 38 = .ok (.putfield 29, 3) := by decide +kernel
theorem dX3_init_41 : decode cX3_init 41 = .ok (.aload_n 0, 1) := by decide +kernel
theorem dX3_init_42 : decode cX3_init 42 = .ok (.bipush 16, 2) := by decide +kernel
theorem dX3_init_44 : decode cX3_init 44 = .ok (.invokestatic 18, 3) := by decide +kernel
theorem dX3_init_47 : decode cX3_init 47 = .ok (.putfield 32, 3) := by decide +kernel
theorem dX3_init_50 : decode cX3_init 50 = .ok (.aload_n 0, 1) := by decide +kernel
theorem dX3_init_51 : decode cX3_init 51 = .ok (.iconst 2, 1) := by decide +kernel
theorem dX3_init_52 : decode cX3_init 52 = .ok (.invokestatic 18, 3) := by decide +kernel
theorem dX3_init_55 : decode cX3_init 55 = .ok (.putfield 35, 3) := by decide +kernel
theorem dX3_init_58 : decode cX3_init 58 = .ok (.aload_n 0, 1) := by decide +kernel
theorem dX3_init_59 : decode cX3_init 59 = .ok (.bipush 6, 2) := by decide +kernel
theorem dX3_init_61 : decode cX3_init 61 = .ok (.newarray .int, 2) := by decide +kernel
theorem dX3_init_63 : decode cX3_init 63 = .ok (.putfield 38, 3) := by decide +kernel
theorem dX3_init_66 : decode cX3_init 66 = .ok (.aload_n 0, 1) := by decide +kernel
theorem dX3_init_67 : decode cX3_init 67 = .ok (.bipush 6, 2) := by decide +kernel
theorem dX3_init_69 : decode cX3_init 69 = .ok (.newarray .int, 2) := by decide +kernel
theorem dX3_init_71 : decode cX3_init 71 = .ok (.putfield 42, 3) := by decide +kernel
theorem dX3_init_74 : decode cX3_init 74 = .ok (.aload_n 0, 1) := by decide +kernel
theorem dX3_init_75 : decode cX3_init 75 = .ok (.getfield 12, 3) := by decide +kernel
theorem dX3_init_78 : decode cX3_init 78 = .ok (.invokevirtual 45, 3) := by decide +kernel
theorem dX3_init_81 : decode cX3_init 81 = .ok (.iconst 0, 1) := by decide +kernel
theorem dX3_init_82 : decode cX3_init 82 = .ok (.istore_n 1, 1) := by decide +kernel
theorem dX3_init_83 : decode cX3_init 83 = .ok (.iload_n 1, 1) := by decide +kernel
theorem dX3_init_84 : decode cX3_init 84 = .ok (.iconst 5, 1) := by decide +kernel
theorem dX3_init_85 : decode cX3_init 85 = .ok (.if_icmp .ge 19, 3) := by decide +kernel
theorem dX3_init_88 : decode cX3_init 88 = .ok (.aload_n 0, 1) := by decide +kernel
theorem dX3_init_89 : decode cX3_init 89 = .ok (.getfield 22, 3) := by decide +kernel
theorem dX3_init_92 : decode cX3_init 92 = .ok (.iload_n 1, 1) := by decide +kernel
theorem dX3_init_93 : decode cX3_init 93 = .ok (.aaload, 1) := by decide +kernel
theorem dX3_init_94 : decode cX3_init 94 = .ok (.iload_n 1, 1) := by decide +kernel
theorem dX3_init_95 : decode cX3_init 95 = .ok (.invokevirtual 48, 3) := by decide +kernel
theorem dX3_init_98 : decode cX3_init 98 = .ok (.iinc 1 1, 3) := by decide +kernel
theorem dX3_init_101 : decode cX3_init 101 = .ok (.goto (-18), 3) := by decide +kernel
theorem dX3_init_104 : decode cX3_init 104 = .ok (.return_, 1) := by decide +kernel
theorem dX3_newSets_0 : decode cX3_newSets 0 = .ok (.iconst 0, 1) := by decide +kernel
theorem dX3_newSets_1 : decode cX3_newSets 1 = .ok (.iload_n 0, 1) := by decide +kernel
theorem dX3_newSets_2 : decode cX3_newSets 2 = .ok (.invokestatic 52, 3) := by decide +kernel
theorem dX3_newSets_5 : decode cX3_newSets 5 = .ok (.anewarray 9, 3) := by decide +kernel
theorem dX3_newSets_8 : decode cX3_newSets 8 = .ok (.astore_n 1, 1) := by decide +kernel
theorem dX3_newSets_9 : decode cX3_newSets 9 = .ok (.iconst 0, 1) := by decide +kernel
theorem dX3_newSets_10 : decode cX3_newSets 10 = .ok (.istore_n 2, 1) := by decide +kernel
theorem dX3_newSets_11 : decode cX3_newSets 11 = .ok (.iload_n 2, 1) := by decide +kernel
theorem dX3_newSets_12 : decode cX3_newSets 12 = .ok (.aload_n 1, 1) := by decide +kernel
theorem dX3_newSets_13 : decode cX3_newSets 13 = .ok (.arraylength, 1) := by decide +kernel
theorem dX3_newSets_14 : decode cX3_newSets 14 = .ok (.if_icmp .ge 19, 3) := by decide +kernel
theorem dX3_newSets_17 : decode cX3_newSets 17 = .ok (.aload_n 1, 1) := by decide +kernel
theorem dX3_newSets_18 : decode cX3_newSets 18 = .ok (.iload_n 2, 1) := by decide +kernel
theorem dX3_newSets_19 : decode cX3_newSets 19 = .ok (.new 9, 3) := by decide +kernel
theorem dX3_newSets_22 : decode cX3_newSets 22 = .ok (.dup, 1) := by decide +kernel
theorem dX3_newSets_23 : decode cX3_newSets 23 = .ok (.invokespecial 11, 3) := by decide +kernel
theorem dX3_newSets_26 : decode cX3_newSets 26 = .ok (.aastore, 1) := by decide +kernel
theorem dX3_newSets_27 : decode cX3_newSets 27 = .ok (.iinc 2 1, 3) := by decide +kernel
theorem dX3_newSets_30 : decode cX3_newSets 30 = .ok (.goto (-19), 3) := by decide +kernel
theorem dX3_newSets_33 : decode cX3_newSets 33 = .ok (.aload_n 1, 1) := by decide +kernel
theorem dX3_newSets_34 : decode cX3_newSets 34 = .ok (.areturn, 1) := by decide +kernel
theorem dX3_firstOf_0 : decode cX3_firstOf 0 = .ok (.aload_n 0, 1) := by decide +kernel
theorem dX3_firstOf_1 : decode cX3_firstOf 1 = .ok (.getfield 26, 3) := by decide +kernel
theorem dX3_firstOf_4 : decode cX3_firstOf 4 = .ok (.iload_n 1, 1) := by decide +kernel
theorem dX3_firstOf_5 : decode cX3_firstOf 5 = .ok (.aaload, 1) := by decide +kernel
theorem dX3_firstOf_6 : decode cX3_firstOf 6 = .ok (.areturn, 1) := by decide +kernel
theorem dX3_followOf_0 : decode cX3_followOf 0 = .ok (.aload_n 0, 1) := by decide +kernel
theorem dX3_followOf_1 : decode cX3_followOf 1 = .ok (.getfield 29, 3) := by decide +kernel
theorem dX3_followOf_4 : decode cX3_followOf 4 = .ok (.iload_n 1, 1) := by decide +kernel
theorem dX3_followOf_5 : decode cX3_followOf 5 = .ok (.aaload, 1) := by decide +kernel
theorem dX3_followOf_6 : decode cX3_followOf 6 = .ok (.areturn, 1) := by decide +kernel
theorem dX3_aheadOf_0 : decode cX3_aheadOf 0 = .ok (.aload_n 0, 1) := by decide +kernel
theorem dX3_aheadOf_1 : decode cX3_aheadOf 1 = .ok (.getfield 32, 3) := by decide +kernel
theorem dX3_aheadOf_4 : decode cX3_aheadOf 4 = .ok (.iload_n 1, 1) := by decide +kernel
theorem dX3_aheadOf_5 : decode cX3_aheadOf 5 = .ok (.aaload, 1) := by decide +kernel
theorem dX3_aheadOf_6 : decode cX3_aheadOf 6 = .ok (.areturn, 1) := by decide +kernel
theorem dX3_depthOf_0 : decode cX3_depthOf 0 = .ok (.aload_n 0, 1) := by decide +kernel
theorem dX3_depthOf_1 : decode cX3_depthOf 1 = .ok (.getfield 38, 3) := by decide +kernel
theorem dX3_depthOf_4 : decode cX3_depthOf 4 = .ok (.iload_n 1, 1) := by decide +kernel
theorem dX3_depthOf_5 : decode cX3_depthOf 5 = .ok (.iaload, 1) := by decide +kernel
theorem dX3_depthOf_6 : decode cX3_depthOf 6 = .ok (.ireturn, 1) := by decide +kernel
theorem dX3_roughDepthOf_0 : decode cX3_roughDepthOf 0 = .ok (.aload_n 0, 1) := by decide +kernel
theorem dX3_roughDepthOf_1 : decode cX3_roughDepthOf 1 = .ok (.getfield 42, 3) := by decide +kernel
theorem dX3_roughDepthOf_4 : decode cX3_roughDepthOf 4 = .ok (.iload_n 1, 1) := by decide +kernel
theorem dX3_roughDepthOf_5 : decode cX3_roughDepthOf 5 = .ok (.iaload, 1) := by decide +kernel
theorem dX3_roughDepthOf_6 : decode cX3_roughDepthOf 6 = .ok (.ireturn, 1) := by decide +kernel
theorem dX3_find_0 : decode cX3_find 0 = .ok (.aload_n 0, 1) := by decide +kernel
theorem dX3_find_1 : decode cX3_find 1 = .ok (.aload_n 1, 1) := by decide +kernel
theorem dX3_find_2 : decode cX3_find 2 = .ok (.invokevirtual 58, 3) := by decide +kernel
theorem dX3_find_5 : decode cX3_find 5 = .ok (.aload_n 0, 1) := by decide +kernel
theorem dX3_find_6 : decode cX3_find 6 = .ok (.aload_n 1, 1) := by decide +kernel
theorem dX3_find_7 : decode cX3_find 7 = .ok (.invokevirtual 62, 3) := by decide +kernel
theorem dX3_find_10 : decode cX3_find 10 = .ok (.iconst 0, 1) := by decide +kernel
theorem dX3_find_11 : decode cX3_find 11 = .ok (.istore_n 2, 1) := by decide +kernel
theorem dX3_find_12 : decode cX3_find 12 = .ok (.iload_n 2, 1) := by decide +kernel
theorem dX3_find_13 : decode cX3_find 13 = .ok (.aload_n 1, 1) := by decide +kernel
theorem dX3_find_14 : decode cX3_find 14 = .ok (.invokevirtual 65, 3) := by decide +kernel
theorem dX3_find_17 : decode cX3_find 17 = .ok (.if_icmp .ge 44, 3) := by decide +kernel
theorem dX3_find_20 : decode cX3_find 20 = .ok (.aload_n 0, 1) := by decide +kernel
theorem dX3_find_21 : decode cX3_find 21 = .ok (.getfield 32, 3) := by decide +kernel
theorem dX3_find_24 : decode cX3_find 24 = .ok (.iload_n 2, 1) := by decide +kernel
theorem dX3_find_25 : decode cX3_find 25 = .ok (.aaload, 1) := by decide +kernel
theorem dX3_find_26 : decode cX3_find 26 = .ok (.invokevirtual 71, 3) := by decide +kernel
theorem dX3_find_29 : decode cX3_find 29 = .ok (.aload_n 0, 1) := by decide +kernel
theorem dX3_find_30 : decode cX3_find 30 = .ok (.getfield 32, 3) := by decide +kernel
theorem dX3_find_33 : decode cX3_find 33 = .ok (.iload_n 2, 1) := by decide +kernel
theorem dX3_find_34 : decode cX3_find 34 = .ok (.aaload, 1) := by decide +kernel
theorem dX3_find_35 : decode cX3_find 35 = .ok (.aload_n 0, 1) := by decide +kernel
theorem dX3_find_36 : decode cX3_find 36 = .ok (.aload_n 1, 1) := by decide +kernel
theorem dX3_find_37 : decode cX3_find 37 = .ok (.iload_n 2, 1) := by decide +kernel
theorem dX3_find_38 : decode cX3_find 38 = .ok (.aload_n 0, 1) := by decide +kernel
theorem dX3_find_39 : decode cX3_find 39 = .ok (.getfield 29, 3) := by decide +kernel
theorem dX3_find_42 : decode cX3_find 42 = .ok (.aload_n 1, 1) := by decide +kernel
theorem dX3_find_43 : decode cX3_find 43 = .ok (.iload_n 2, 1) := by decide +kernel
theorem dX3_find_44 : decode cX3_find 44 = .ok (.invokevirtual 74, 3) := by decide +kernel
theorem dX3_find_47 : decode cX3_find 47 = .ok (.aaload, 1) := by decide +kernel
theorem dX3_find_48 : decode cX3_find 48 = .ok (.invokevirtual 78, 3) := by decide +kernel
theorem dX3_find_51 : decode cX3_find 51 = .ok (.invokevirtual 82, 3) := by decide +kernel
theorem dX3_find_54 : decode cX3_find 54 = .ok (.pop, 1) := by decide +kernel
theorem dX3_find_55 : decode cX3_find 55 = .ok (.iinc 2 1, 3) := by decide +kernel
theorem dX3_find_58 : decode cX3_find 58 = .ok (.goto (-46), 3) := by decide +kernel
theorem dX3_find_61 : decode cX3_find 61 = .ok (.iconst 0, 1) := by decide +kernel
theorem dX3_find_62 : decode cX3_find 62 = .ok (.istore_n 2, 1) := by decide +kernel
theorem dX3_find_63 : decode cX3_find 63 = .ok (.iload_n 2, 1) := by decide +kernel
theorem dX3_find_64 : decode cX3_find 64 = .ok (.bipush 6, 2) := by decide +kernel
theorem dX3_find_66 : decode cX3_find 66 = .ok (.if_icmp .ge 33, 3) := by decide +kernel
theorem dX3_find_69 : decode cX3_find 69 = .ok (.aload_n 0, 1) := by decide +kernel
theorem dX3_find_70 : decode cX3_find 70 = .ok (.getfield 38, 3) := by decide +kernel
theorem dX3_find_73 : decode cX3_find 73 = .ok (.iload_n 2, 1) := by decide +kernel
theorem dX3_find_74 : decode cX3_find 74 = .ok (.aload_n 0, 1) := by decide +kernel
theorem dX3_find_75 : decode cX3_find 75 = .ok (.aload_n 1, 1) := by decide +kernel
theorem dX3_find_76 : decode cX3_find 76 = .ok (.iload_n 2, 1) := by decide +kernel
theorem dX3_find_77 : decode cX3_find 77 = .ok (.invokevirtual 86, 3) := by decide +kernel
theorem dX3_find_80 : decode cX3_find 80 = .ok (.iastore, 1) := by decide +kernel
theorem dX3_find_81 : decode cX3_find 81 = .ok (.aload_n 0, 1) := by decide +kernel
theorem dX3_find_82 : decode cX3_find 82 = .ok (.getfield 42, 3) := by decide +kernel
theorem dX3_find_85 : decode cX3_find 85 = .ok (.iload_n 2, 1) := by decide +kernel
theorem dX3_find_86 : decode cX3_find 86 = .ok (.aload_n 0, 1) := by decide +kernel
theorem dX3_find_87 : decode cX3_find 87 = .ok (.aload_n 1, 1) := by decide +kernel
theorem dX3_find_88 : decode cX3_find 88 = .ok (.iload_n 2, 1) := by decide +kernel
theorem dX3_find_89 : decode cX3_find 89 = .ok (.invokevirtual 90, 3) := by decide +kernel
theorem dX3_find_92 : decode cX3_find 92 = .ok (.iastore, 1) := by decide +kernel
theorem dX3_find_93 : decode cX3_find 93 = .ok (.iinc 2 1, 3) := by decide +kernel
theorem dX3_find_96 : decode cX3_find 96 = .ok (.goto (-33), 3) := by decide +kernel
theorem dX3_find_99 : decode cX3_find 99 = .ok (.return_, 1) := by decide +kernel
theorem dX3_findFirsts_0 : decode cX3_findFirsts 0 = .ok (.iconst 0, 1) := by decide +kernel
theorem dX3_findFirsts_1 : decode cX3_findFirsts 1 = .ok (.istore_n 2, 1) := by decide +kernel
theorem dX3_findFirsts_2 : decode cX3_findFirsts 2 = .ok (.iload_n 2, 1) := by decide +kernel
theorem dX3_findFirsts_3 : decode cX3_findFirsts 3 = .ok (.bipush 6, 2) := by decide +kernel
theorem dX3_findFirsts_5 : decode cX3_findFirsts 5 = .ok (.if_icmp .ge 18, 3) := by decide +kernel
theorem dX3_findFirsts_8 : decode cX3_findFirsts 8 = .ok (.aload_n 0, 1) := by decide +kernel
theorem dX3_findFirsts_9 : decode cX3_findFirsts 9 = .ok (.getfield 26, 3) := by decide +kernel
theorem dX3_findFirsts_12 : decode cX3_findFirsts 12 = .ok (.iload_n 2, 1) := by decide +kernel
theorem dX3_findFirsts_13 : decode cX3_findFirsts 13 = .ok (.aaload, 1) := by decide +kernel
theorem dX3_findFirsts_14 : decode cX3_findFirsts 14 = .ok (.invokevirtual 71, 3) := by decide +kernel
theorem dX3_findFirsts_17 : decode cX3_findFirsts 17 = .ok (.iinc 2 1, 3) := by decide +kernel
theorem dX3_findFirsts_20 : decode cX3_findFirsts 20 = .ok (.goto (-18), 3) := by decide +kernel
theorem dX3_findFirsts_23 : decode cX3_findFirsts 23 = .ok (.iconst 1, 1) := by decide +kernel
theorem dX3_findFirsts_24 : decode cX3_findFirsts 24 = .ok (.istore_n 2, 1) := by decide +kernel
theorem dX3_findFirsts_25 : decode cX3_findFirsts 25 = .ok (.iconst 0, 1) := by decide +kernel
theorem dX3_findFirsts_26 : decode cX3_findFirsts 26 = .ok (.istore_n 3, 1) := by decide +kernel
theorem dX3_findFirsts_27 : decode cX3_findFirsts 27 = .ok (.iload_n 3, 1) := by decide +kernel
theorem dX3_findFirsts_28 : decode cX3_findFirsts 28 = .ok (.sipush 1000, 3) := by decide +kernel
theorem dX3_findFirsts_31 : decode cX3_findFirsts 31 = .ok (.if_icmp .ge 63, 3) := by decide +kernel
theorem dX3_findFirsts_34 : decode cX3_findFirsts 34 = .ok (.iload_n 2, 1) := by decide +kernel
theorem dX3_findFirsts_35 : decode cX3_findFirsts 35 = .ok (.ifCond .eq 59, 3) := by decide +kernel
theorem dX3_findFirsts_38 : decode cX3_findFirsts 38 = .ok (.iconst 0, 1) := by decide +kernel
theorem dX3_findFirsts_39 : decode cX3_findFirsts 39 = .ok (.istore_n 2, 1) := by decide +kernel
theorem dX3_findFirsts_40 : decode cX3_findFirsts 40 = .ok (.iconst 0, 1) := by decide +kernel
theorem dX3_findFirsts_41 : decode cX3_findFirsts 41 = .ok (.istore 4, 2) := by decide +kernel
theorem dX3_findFirsts_43 : decode cX3_findFirsts 43 = .ok (.iload 4, 2) := by decide +kernel
theorem dX3_findFirsts_45 : decode cX3_findFirsts 45 = .ok (.aload_n 1, 1) := by decide +kernel
theorem dX3_findFirsts_46 : decode cX3_findFirsts 46 = .ok (.invokevirtual 65, 3) := by decide +kernel
theorem dX3_findFirsts_49 : decode cX3_findFirsts 49 = .ok (.if_icmp .ge 39, 3) := by decide +kernel
theorem dX3_findFirsts_52 : decode cX3_findFirsts 52 = .ok (.aload_n 0, 1) := by decide +kernel
theorem dX3_findFirsts_53 : decode cX3_findFirsts 53 = .ok (.getfield 26, 3) := by decide +kernel
theorem dX3_findFirsts_56 : decode cX3_findFirsts 56 = .ok (.aload_n 1, 1) := by decide +kernel
theorem dX3_findFirsts_57 : decode cX3_findFirsts 57 = .ok (.iload 4, 2) := by decide +kernel
theorem dX3_findFirsts_59 : decode cX3_findFirsts 59 = .ok (.invokevirtual 74, 3) := by decide +kernel
theorem dX3_findFirsts_62 : decode cX3_findFirsts 62 = .ok (.aaload, 1) := by decide +kernel
theorem dX3_findFirsts_63 : decode cX3_findFirsts 63 = .ok (.aload_n 0, 1) := by decide +kernel
theorem dX3_findFirsts_64 : decode cX3_findFirsts 64 = .ok (.aload_n 1, 1) := by decide +kernel
theorem dX3_findFirsts_65 : decode cX3_findFirsts 65 = .ok (.iload 4, 2) := by decide +kernel
theorem dX3_findFirsts_67 : decode cX3_findFirsts 67 = .ok (.aload_n 0, 1) := by decide +kernel
theorem dX3_findFirsts_68 : decode cX3_findFirsts 68 = .ok (.getfield 12, 3) := by decide +kernel
theorem dX3_findFirsts_71 : decode cX3_findFirsts 71 = .ok (.invokevirtual 78, 3) := by decide +kernel
theorem dX3_findFirsts_74 : decode cX3_findFirsts 74 = .ok (.invokevirtual 82, 3) := by decide +kernel
theorem dX3_findFirsts_77 : decode cX3_findFirsts 77 = .ok (.ifCond .eq 5, 3) := by decide +kernel
theorem dX3_findFirsts_80 : decode cX3_findFirsts 80 = .ok (.iconst 1, 1) := by decide +kernel
theorem dX3_findFirsts_81 : decode cX3_findFirsts 81 = .ok (.istore_n 2, 1) := by decide +kernel
theorem dX3_findFirsts_82 : decode cX3_findFirsts 82 = .ok (.iinc 4 1, 3) := by decide +kernel
theorem dX3_findFirsts_85 : decode cX3_findFirsts 85 = .ok (.goto (-42), 3) := by decide +kernel
theorem dX3_findFirsts_88 : decode cX3_findFirsts 88 = .ok (.iinc 3 1, 3) := by decide +kernel
theorem dX3_findFirsts_91 : decode cX3_findFirsts 91 = .ok (.goto (-64), 3) := by decide +kernel
theorem dX3_findFirsts_94 : decode cX3_findFirsts 94 = .ok (.return_, 1) := by decide +kernel
theorem dX3_findFollows_0 : decode cX3_findFollows 0 = .ok (.iconst 0, 1) := by decide +kernel
theorem dX3_findFollows_1 : decode cX3_findFollows 1 = .ok (.istore_n 2, 1) := by decide +kernel
theorem dX3_findFollows_2 : decode cX3_findFollows 2 = .ok (.iload_n 2, 1) := by decide +kernel
theorem dX3_findFollows_3 : decode cX3_findFollows 3 = .ok (.bipush 6, 2) := by decide +kernel
theorem dX3_findFollows_5 : decode cX3_findFollows 5 = .ok (.if_icmp .ge 18, 3) := by decide +kernel
theorem dX3_findFollows_8 : decode cX3_findFollows 8 = .ok (.aload_n 0, 1) := by decide +kernel
theorem dX3_findFollows_9 : decode cX3_findFollows 9 = .ok (.getfield 29, 3) := by decide +kernel
theorem dX3_findFollows_12 : decode cX3_findFollows 12 = .ok (.iload_n 2, 1) := by decide +kernel
theorem dX3_findFollows_13 : decode cX3_findFollows 13 = .ok (.aaload, 1) := by decide +kernel
theorem dX3_findFollows_14 : decode cX3_findFollows 14 = .ok (.invokevirtual 71, 3) := by decide +kernel
theorem dX3_findFollows_17 : decode cX3_findFollows 17 = .ok (.iinc 2 1, 3) := by decide +kernel
theorem dX3_findFollows_20 : decode cX3_findFollows 20 = .ok (.goto (-18), 3) := by decide +kernel
theorem dX3_findFollows_23 : decode cX3_findFollows 23 = .ok (.aload_n 0, 1) := by decide +kernel
theorem dX3_findFollows_24 : decode cX3_findFollows 24 = .ok (.getfield 29, 3) := by decide +kernel
theorem dX3_findFollows_27 : decode cX3_findFollows 27 = .ok (.aload_n 1, 1) := by decide +kernel
theorem dX3_findFollows_28 : decode cX3_findFollows 28 = .ok (.invokevirtual 93, 3) := by decide +kernel
theorem dX3_findFollows_31 : decode cX3_findFollows 31 = .ok (.aaload, 1) := by decide +kernel
theorem dX3_findFollows_32 : decode cX3_findFollows 32 = .ok (.invokevirtual 45, 3) := by decide +kernel
theorem dX3_findFollows_35 : decode cX3_findFollows 35 = .ok (.iconst 1, 1) := by decide +kernel
theorem dX3_findFollows_36 : decode cX3_findFollows 36 = .ok (.istore_n 2, 1) := by decide +kernel
theorem dX3_findFollows_37 : decode cX3_findFollows 37 = .ok (.iconst 0, 1) := by decide +kernel
theorem dX3_findFollows_38 : decode cX3_findFollows 38 = .ok (.istore_n 3, 1) := by decide +kernel
theorem dX3_findFollows_39 : decode cX3_findFollows 39 = .ok (.iload_n 3, 1) := by decide +kernel
theorem dX3_findFollows_40 : decode cX3_findFollows 40 = .ok (.sipush 1000, 3) := by decide +kernel
theorem dX3_findFollows_43 : decode cX3_findFollows 43 = .ok (.if_icmp .ge 45, 3) := by decide +kernel
theorem dX3_findFollows_46 : decode cX3_findFollows 46 = .ok (.iload_n 2, 1) := by decide +kernel
theorem dX3_findFollows_47 : decode cX3_findFollows 47 = .ok (.ifCond .eq 41, 3) := by decide +kernel
theorem dX3_findFollows_50 : decode cX3_findFollows 50 = .ok (.iconst 0, 1) := by decide +kernel
theorem dX3_findFollows_51 : decode cX3_findFollows 51 = .ok (.istore_n 2, 1) := by decide +kernel
theorem dX3_findFollows_52 : decode cX3_findFollows 52 = .ok (.iconst 0, 1) := by decide +kernel
theorem dX3_findFollows_53 : decode cX3_findFollows 53 = .ok (.istore 4, 2) := by decide +kernel
theorem dX3_findFollows_55 : decode cX3_findFollows 55 = .ok (.iload 4, 2) := by decide +kernel
theorem dX3_findFollows_57 : decode cX3_findFollows 57 = .ok (.aload_n 1, 1) := by decide +kernel
theorem dX3_findFollows_58 : decode cX3_findFollows 58 = .ok (.invokevirtual 65, 3) := by decide +kernel
theorem dX3_findFollows_61 : decode cX3_findFollows 61 = .ok (.if_icmp .ge 21, 3) := by decide +kernel
theorem dX3_findFollows_64 : decode cX3_findFollows 64 = .ok (.aload_n 0, 1) := by decide +kernel
theorem dX3_findFollows_65 : decode cX3_findFollows 65 = .ok (.aload_n 1, 1) := by decide +kernel
theorem dX3_findFollows_66 : decode cX3_findFollows 66 = .ok (.iload 4, 2) := by decide +kernel
theorem dX3_findFollows_68 : decode cX3_findFollows 68 = .ok (.invokevirtual 96, 3) := by decide +kernel
theorem dX3_findFollows_71 : decode cX3_findFollows 71 = .ok (.ifCond .eq 5, 3) := by decide +kernel
theorem dX3_findFollows_74 : decode cX3_findFollows 74 = .ok (.iconst 1, 1) := by decide +kernel
theorem dX3_findFollows_75 : decode cX3_findFollows 75 = .ok (.istore_n 2, 1) := by decide +kernel
theorem dX3_findFollows_76 : decode cX3_findFollows 76 = .ok (.iinc 4 1, 3) := by decide +kernel
theorem dX3_findFollows_79 : decode cX3_findFollows 79 = .ok (.goto (-24), 3) := by decide +kernel
theorem dX3_findFollows_82 : decode cX3_findFollows 82 = .ok (.iinc 3 1, 3) := by decide +kernel
theorem dX3_findFollows_85 : decode cX3_findFollows 85 = .ok (.goto (-46), 3) := by decide +kernel
theorem dX3_findFollows_88 : decode cX3_findFollows 88 = .ok (.return_, 1) := by decide +kernel
theorem dX3_growFollows_0 : decode cX3_growFollows 0 = .ok (.iconst 0, 1) := by decide +kernel
theorem dX3_growFollows_1 : decode cX3_growFollows 1 = .ok (.istore_n 3, 1) := by decide +kernel
theorem dX3_growFollows_2 : decode cX3_growFollows 2 = .ok (.aload_n 0, 1) := by decide +kernel
theorem dX3_growFollows_3 : decode cX3_growFollows 3 = .ok (.getfield 29, 3) := by decide +kernel
theorem dX3_growFollows_6 : decode cX3_growFollows 6 = .ok (.aload_n 1, 1) := by decide +kernel
theorem dX3_growFollows_7 : decode cX3_growFollows 7 = .ok (.iload_n 2, 1) := by decide +kernel
theorem dX3_growFollows_8 : decode cX3_growFollows 8 = .ok (.invokevirtual 74, 3) := by decide +kernel
theorem dX3_growFollows_11 : decode cX3_growFollows 11 = .ok (.aaload, 1) := by decide +kernel
theorem dX3_growFollows_12 : decode cX3_growFollows 12 = .ok (.astore 4, 2) := by decide +kernel
theorem dX3_growFollows_14 : decode cX3_growFollows 14 = .ok (.aload_n 1, 1) := by decide +kernel
theorem dX3_growFollows_15 : decode cX3_growFollows 15 = .ok (.iload_n 2, 1) := by decide +kernel
theorem dX3_growFollows_16 : decode cX3_growFollows 16 = .ok (.invokevirtual 100, 3) := by decide +kernel
theorem dX3_growFollows_19 : decode cX3_growFollows 19 = .ok (.iconst 1, 1) := by decide +kernel
theorem dX3_growFollows_20 : decode cX3_growFollows 20 = .ok (.isub, 1) := by decide +kernel
theorem dX3_growFollows_21 : decode cX3_growFollows 21 = .ok (.istore 5, 2) := by decide +kernel
theorem dX3_growFollows_23 : decode cX3_growFollows 23 = .ok (.iload 5, 2) := by decide +kernel
theorem dX3_growFollows_25 : decode cX3_growFollows 25 = .ok (.ifCond .lt 74, 3) := by decide +kernel
theorem dX3_growFollows_28 : decode cX3_growFollows 28 = .ok (.aload_n 1, 1) := by decide +kernel
theorem dX3_growFollows_29 : decode cX3_growFollows 29 = .ok (.iload_n 2, 1) := by decide +kernel
theorem dX3_growFollows_30 : decode cX3_growFollows 30 = .ok (.iload 5, 2) := by decide +kernel
theorem dX3_growFollows_32 : decode cX3_growFollows 32 = .ok (.invokevirtual 103, 3) := by decide +kernel
theorem dX3_growFollows_35 : decode cX3_growFollows 35 = .ok (.istore 6, 2) := by decide +kernel
theorem dX3_growFollows_37 : decode cX3_growFollows 37 = .ok (.iload 6, 2) := by decide +kernel
theorem dX3_growFollows_39 : decode cX3_growFollows 39 = .ok (.invokestatic 106, 3) := by decide +kernel
theorem dX3_growFollows_42 : decode cX3_growFollows 42 = .ok (.ifCond .ne 23, 3) := by decide +kernel
theorem dX3_growFollows_45 : decode cX3_growFollows 45 = .ok (.aload_n 0, 1) := by decide +kernel
theorem dX3_growFollows_46 : decode cX3_growFollows 46 = .ok (.getfield 29, 3) := by decide +kernel
theorem dX3_growFollows_49 : decode cX3_growFollows 49 = .ok (.iload 6, 2) := by decide +kernel
theorem dX3_growFollows_51 : decode cX3_growFollows 51 = .ok (.bipush 10, 2) := by decide +kernel
theorem dX3_growFollows_53 : decode cX3_growFollows 53 = .ok (.isub, 1) := by decide +kernel
theorem dX3_growFollows_54 : decode cX3_growFollows 54 = .ok (.aaload, 1) := by decide +kernel
theorem dX3_growFollows_55 : decode cX3_growFollows 55 = .ok (.aload 4, 2) := by decide +kernel
theorem dX3_growFollows_57 : decode cX3_growFollows 57 = .ok (.invokevirtual 82, 3) := by decide +kernel
theorem dX3_growFollows_60 : decode cX3_growFollows 60 = .ok (.ifCond .eq 5, 3) := by decide +kernel
theorem dX3_growFollows_63 : decode cX3_growFollows 63 = .ok (.iconst 1, 1) := by decide +kernel
theorem dX3_growFollows_64 : decode cX3_growFollows 64 = .ok (.istore_n 3, 1) := by decide +kernel
theorem dX3_growFollows_65 : decode cX3_growFollows 65 = .ok (.aload_n 0, 1) := by decide +kernel
theorem dX3_growFollows_66 : decode cX3_growFollows 66 = .ok (.getfield 35, 3) := by decide +kernel
theorem dX3_growFollows_69 : decode cX3_growFollows 69 = .ok (.iload 5, 2) := by decide +kernel
theorem dX3_growFollows_71 : decode cX3_growFollows 71 = .ok (.iconst 1, 1) := by decide +kernel
theorem dX3_growFollows_72 : decode cX3_growFollows 72 = .ok (.iand, 1) := by decide +kernel
theorem dX3_growFollows_73 : decode cX3_growFollows 73 = .ok (.aaload, 1) := by decide +kernel
theorem dX3_growFollows_74 : decode cX3_growFollows 74 = .ok (.astore 7, 2) := by decide +kernel
theorem dX3_growFollows_76 : decode cX3_growFollows 76 = .ok (.aload 7, 2) := by decide +kernel
theorem dX3_growFollows_78 : decode cX3_growFollows 78 = .ok (.aload_n 0, 1) := by decide +kernel
theorem dX3_growFollows_79 : decode cX3_growFollows 79 = .ok (.iload 6, 2) := by decide +kernel
theorem dX3_growFollows_81 : decode cX3_growFollows 81 = .ok (.invokevirtual 110, 3) := by decide +kernel
theorem dX3_growFollows_84 : decode cX3_growFollows 84 = .ok (.aload 4, 2) := by decide +kernel
theorem dX3_growFollows_86 : decode cX3_growFollows 86 = .ok (.invokevirtual 114, 3) := by decide +kernel
theorem dX3_growFollows_89 : decode cX3_growFollows 89 = .ok (.aload 7, 2) := by decide +kernel
theorem dX3_growFollows_91 : decode cX3_growFollows 91 = .ok (.astore 4, 2) := by decide +kernel
theorem dX3_growFollows_93 : decode cX3_growFollows 93 = .ok (.iinc 5 (-1), 3) := by decide +kernel
theorem dX3_growFollows_96 : decode cX3_growFollows 96 = .ok (.goto (-73), 3) := by decide +kernel
theorem dX3_growFollows_99 : decode cX3_growFollows 99 = .ok (.iload_n 3, 1) := by decide +kernel
theorem dX3_growFollows_100 : decode cX3_growFollows 100 = .ok (.ireturn, 1) := by decide +kernel
theorem dX3_putBefore_0 : decode cX3_putBefore 0 = .ok (.aload_n 3, 1) := by decide +kernel
theorem dX3_putBefore_1 : decode cX3_putBefore 1 = .ok (.astore 4, 2) := by decide +kernel
theorem dX3_putBefore_3 : decode cX3_putBefore 3 = .ok (.aload_n 1, 1) := by decide +kernel
theorem dX3_putBefore_4 : decode cX3_putBefore 4 = .ok (.iload_n 2, 1) := by decide +kernel
theorem dX3_putBefore_5 : decode cX3_putBefore 5 = .ok (.invokevirtual 100, 3) := by decide +kernel
theorem dX3_putBefore_8 : decode cX3_putBefore 8 = .ok (.iconst 1, 1) := by decide +kernel
theorem dX3_putBefore_9 : decode cX3_putBefore 9 = .ok (.isub, 1) := by decide +kernel
theorem dX3_putBefore_10 : decode cX3_putBefore 10 = .ok (.istore 5, 2) := by decide +kernel
theorem dX3_putBefore_12 : decode cX3_putBefore 12 = .ok (.iload 5, 2) := by decide +kernel
theorem dX3_putBefore_14 : decode cX3_putBefore 14 = .ok (.ifCond .lt 42, 3) := by decide +kernel
theorem dX3_putBefore_17 : decode cX3_putBefore 17 = .ok (.aload_n 0, 1) := by decide +kernel
theorem dX3_putBefore_18 : decode cX3_putBefore 18 = .ok (.getfield 35, 3) := by decide +kernel
theorem dX3_putBefore_21 : decode cX3_putBefore 21 = .ok (.iload 5, 2) := by decide +kernel
theorem dX3_putBefore_23 : decode cX3_putBefore 23 = .ok (.iconst 1, 1) := by decide +kernel
theorem dX3_putBefore_24 : decode cX3_putBefore 24 = .ok (.iand, 1) := by decide +kernel
theorem dX3_putBefore_25 : decode cX3_putBefore 25 = .ok (.aaload, 1) := by decide +kernel
theorem dX3_putBefore_26 : decode cX3_putBefore 26 = .ok (.astore 6, 2) := by decide +kernel
theorem dX3_putBefore_28 : decode cX3_putBefore 28 = .ok (.aload 6, 2) := by decide +kernel
theorem dX3_putBefore_30 : decode cX3_putBefore 30 = .ok (.aload_n 0, 1) := by decide +kernel
theorem dX3_putBefore_31 : decode cX3_putBefore 31 = .ok (.aload_n 1, 1) := by decide +kernel
theorem dX3_putBefore_32 : decode cX3_putBefore 32 = .ok (.iload_n 2, 1) := by decide +kernel
theorem dX3_putBefore_33 : decode cX3_putBefore 33 = .ok (.iload 5, 2) := by decide +kernel
theorem dX3_putBefore_35 : decode cX3_putBefore 35 = .ok (.invokevirtual 103, 3) := by decide +kernel
theorem dX3_putBefore_38 : decode cX3_putBefore 38 = .ok (.invokevirtual 110, 3) := by decide +kernel
theorem dX3_putBefore_41 : decode cX3_putBefore 41 = .ok (.aload 4, 2) := by decide +kernel
theorem dX3_putBefore_43 : decode cX3_putBefore 43 = .ok (.invokevirtual 114, 3) := by decide +kernel
theorem dX3_putBefore_46 : decode cX3_putBefore 46 = .ok (.aload 6, 2) := by decide +kernel
theorem dX3_putBefore_48 : decode cX3_putBefore 48 = .ok (.astore 4, 2) := by decide +kernel
theorem dX3_putBefore_50 : decode cX3_putBefore 50 = .ok (.iinc 5 (-1), 3) := by decide +kernel
theorem dX3_putBefore_53 : decode cX3_putBefore 53 = .ok (.goto (-41), 3) := by decide +kernel
theorem dX3_putBefore_56 : decode cX3_putBefore 56 = .ok (.aload 4, 2) := by decide +kernel
theorem dX3_putBefore_58 : decode cX3_putBefore 58 = .ok (.areturn, 1) := by decide +kernel
theorem dX3_wordsOf_0 : decode cX3_wordsOf 0 = .ok (.iload_n 1, 1) := by decide +kernel
theorem dX3_wordsOf_1 : decode cX3_wordsOf 1 = .ok (.invokestatic 106, 3) := by decide +kernel
theorem dX3_wordsOf_4 : decode cX3_wordsOf 4 = .ok (.ifCond .eq 12, 3) := by decide +kernel
theorem dX3_wordsOf_7 : decode cX3_wordsOf 7 = .ok (.aload_n 0, 1) := by decide +kernel
theorem dX3_wordsOf_8 : decode cX3_wordsOf 8 = .ok (.getfield 22, 3) := by decide +kernel
theorem dX3_wordsOf_11 : decode cX3_wordsOf 11 = .ok (.iload_n 1, 1) := by decide +kernel
theorem dX3_wordsOf_12 : decode cX3_wordsOf 12 = .ok (.aaload, 1) := by decide +kernel
theorem dX3_wordsOf_13 : decode cX3_wordsOf 13 = .ok (.goto 12, 3) := by decide +kernel
theorem dX3_wordsOf_16 : decode cX3_wordsOf 16 = .ok (.aload_n 0, 1) := by decide +kernel
theorem dX3_wordsOf_17 : decode cX3_wordsOf 17 = .ok (.getfield 26, 3) := by decide +kernel
theorem dX3_wordsOf_20 : decode cX3_wordsOf 20 = .ok (.iload_n 1, 1) := by decide +kernel
theorem dX3_wordsOf_21 : decode cX3_wordsOf 21 = .ok (.bipush 10, 2) := by decide +kernel
theorem dX3_wordsOf_23 : decode cX3_wordsOf 23 = .ok (.isub, 1) := by decide +kernel
theorem dX3_wordsOf_24 : decode cX3_wordsOf 24 = .ok (.aaload, 1) := by decide +kernel
theorem dX3_wordsOf_25 : decode cX3_wordsOf 25 = .ok (.areturn, 1) := by decide +kernel
theorem dX3_findDepth_0 : decode cX3_findDepth 0 = .ok (.iconst 0, 1) := by decide +kernel
theorem dX3_findDepth_1 : decode cX3_findDepth 1 = .ok (.istore_n 3, 1) := by decide +kernel
theorem dX3_findDepth_2 : decode cX3_findDepth 2 = .ok (.iload_n 3, 1) := by decide +kernel
theorem dX3_findDepth_3 : decode cX3_findDepth 3 = .ok (.iconst 3, 1) := by decide +kernel
theorem dX3_findDepth_4 : decode cX3_findDepth 4 = .ok (.if_icmp .gt 23, 3) := by decide +kernel
theorem dX3_findDepth_7 : decode cX3_findDepth 7 = .ok (.aload_n 0, 1) := by decide +kernel
theorem dX3_findDepth_8 : decode cX3_findDepth 8 = .ok (.aload_n 1, 1) := by decide +kernel
theorem dX3_findDepth_9 : decode cX3_findDepth 9 = .ok (.iload_n 2, 1) := by decide +kernel
theorem dX3_findDepth_10 : decode cX3_findDepth 10 = .ok (.iload_n 3, 1) := by decide +kernel
theorem dX3_findDepth_11 : decode cX3_findDepth 11 = .ok (.invokevirtual 118, 3) := by decide +kernel
theorem dX3_findDepth_14 : decode cX3_findDepth 14 = .ok (.bipush (-9), 2) := by decide +kernel
theorem dX3_findDepth_16 : decode cX3_findDepth 16 = .ok (.if_icmp .ne 5, 3) := by decide +kernel
theorem dX3_findDepth_19 : decode cX3_findDepth 19 = .ok (.iload_n 3, 1) := by decide +kernel
theorem dX3_findDepth_20 : decode cX3_findDepth 20 = .ok (.ireturn, 1) := by decide +kernel
theorem dX3_findDepth_21 : decode cX3_findDepth 21 = .ok (.iinc 3 1, 3) := by decide +kernel
theorem dX3_findDepth_24 : decode cX3_findDepth 24 = .ok (.goto (-22), 3) := by decide +kernel
theorem dX3_findDepth_27 : decode cX3_findDepth 27 = .ok (.bipush (-9), 2) := by decide +kernel
theorem dX3_findDepth_29 : decode cX3_findDepth 29 = .ok (.ireturn, 1) := by decide +kernel
theorem dX3_firstClash_0 : decode cX3_firstClash 0 = .ok (.aload_n 1, 1) := by decide +kernel
theorem dX3_firstClash_1 : decode cX3_firstClash 1 = .ok (.iload_n 2, 1) := by decide +kernel
theorem dX3_firstClash_2 : decode cX3_firstClash 2 = .ok (.invokevirtual 122, 3) := by decide +kernel
theorem dX3_firstClash_5 : decode cX3_firstClash 5 = .ok (.istore 4, 2) := by decide +kernel
theorem dX3_firstClash_7 : decode cX3_firstClash 7 = .ok (.iload 4, 2) := by decide +kernel
theorem dX3_firstClash_9 : decode cX3_firstClash 9 = .ok (.aload_n 1, 1) := by decide +kernel
theorem dX3_firstClash_10 : decode cX3_firstClash 10 = .ok (.iload_n 2, 1) := by decide +kernel
theorem dX3_firstClash_11 : decode cX3_firstClash 11 = .ok (.invokevirtual 125, 3) := by decide +kernel
theorem dX3_firstClash_14 : decode cX3_firstClash 14 = .ok (.if_icmp .ge 61, 3) := by decide +kernel
theorem dX3_firstClash_17 : decode cX3_firstClash 17 = .ok (.iload 4, 2) := by decide +kernel
theorem dX3_firstClash_19 : decode cX3_firstClash 19 = .ok (.iconst 1, 1) := by decide +kernel
theorem dX3_firstClash_20 : decode cX3_firstClash 20 = .ok (.iadd, 1) := by decide +kernel
theorem dX3_firstClash_21 : decode cX3_firstClash 21 = .ok (.istore 5, 2) := by decide +kernel
theorem dX3_firstClash_23 : decode cX3_firstClash 23 = .ok (.iload 5, 2) := by decide +kernel
theorem dX3_firstClash_25 : decode cX3_firstClash 25 = .ok (.aload_n 1, 1) := by decide +kernel
theorem dX3_firstClash_26 : decode cX3_firstClash 26 = .ok (.iload_n 2, 1) := by decide +kernel
theorem dX3_firstClash_27 : decode cX3_firstClash 27 = .ok (.invokevirtual 125, 3) := by decide +kernel
theorem dX3_firstClash_30 : decode cX3_firstClash 30 = .ok (.if_icmp .ge 39, 3) := by decide +kernel
theorem dX3_firstClash_33 : decode cX3_firstClash 33 = .ok (.aload_n 0, 1) := by decide +kernel
theorem dX3_firstClash_34 : decode cX3_firstClash 34 = .ok (.getfield 32, 3) := by decide +kernel
theorem dX3_firstClash_37 : decode cX3_firstClash 37 = .ok (.iload 4, 2) := by decide +kernel
theorem dX3_firstClash_39 : decode cX3_firstClash 39 = .ok (.aaload, 1) := by decide +kernel
theorem dX3_firstClash_40 : decode cX3_firstClash 40 = .ok (.aload_n 0, 1) := by decide +kernel
theorem dX3_firstClash_41 : decode cX3_firstClash 41 = .ok (.getfield 32, 3) := by decide +kernel
theorem dX3_firstClash_44 : decode cX3_firstClash 44 = .ok (.iload 5, 2) := by decide +kernel
theorem dX3_firstClash_46 : decode cX3_firstClash 46 = .ok (.aaload, 1) := by decide +kernel
theorem dX3_firstClash_47 : decode cX3_firstClash 47 = .ok (.iload_n 3, 1) := by decide +kernel
theorem dX3_firstClash_48 : decode cX3_firstClash 48 = .ok (.invokevirtual 128, 3) := by decide +kernel
theorem dX3_firstClash_51 : decode cX3_firstClash 51 = .ok (.ifCond .eq 12, 3) := by decide +kernel
theorem dX3_firstClash_54 : decode cX3_firstClash 54 = .ok (.bipush 100, 2) := by decide +kernel
theorem dX3_firstClash_56 : decode cX3_firstClash 56 = .ok (.iload 4, 2) := by decide +kernel
theorem dX3_firstClash_58 : decode cX3_firstClash 58 = .ok (.imul, 1) := by decide +kernel
theorem dX3_firstClash_59 : decode cX3_firstClash 59 = .ok (.iload 5, 2) := by decide +kernel
theorem dX3_firstClash_61 : decode cX3_firstClash 61 = .ok (.iadd, 1) := by decide +kernel
theorem dX3_firstClash_62 : decode cX3_firstClash 62 = .ok (.ireturn, 1) := by decide +kernel
theorem dX3_firstClash_63 : decode cX3_firstClash 63 = .ok (.iinc 5 1, 3) := by decide +kernel
theorem dX3_firstClash_66 : decode cX3_firstClash 66 = .ok (.goto (-43), 3) := by decide +kernel
theorem dX3_firstClash_69 : decode cX3_firstClash 69 = .ok (.iinc 4 1, 3) := by decide +kernel
theorem dX3_firstClash_72 : decode cX3_firstClash 72 = .ok (.goto (-65), 3) := by decide +kernel
theorem dX3_firstClash_75 : decode cX3_firstClash 75 = .ok (.bipush (-9), 2) := by decide +kernel
theorem dX3_firstClash_77 : decode cX3_firstClash 77 = .ok (.ireturn, 1) := by decide +kernel
theorem dX3_findRoughDepth_0 : decode cX3_findRoughDepth 0 = .ok (.iconst 0, 1) := by decide +kernel
theorem dX3_findRoughDepth_1 : decode cX3_findRoughDepth 1 = .ok (.istore_n 3, 1) := by decide +kernel
theorem dX3_findRoughDepth_2 : decode cX3_findRoughDepth 2 = .ok (.aload_n 1, 1) := by decide +kernel
theorem dX3_findRoughDepth_3 : decode cX3_findRoughDepth 3 = .ok (.iload_n 2, 1) := by decide +kernel
theorem dX3_findRoughDepth_4 : decode cX3_findRoughDepth 4 = .ok (.invokevirtual 122, 3) := by decide +kernel
theorem dX3_findRoughDepth_7 : decode cX3_findRoughDepth 7 = .ok (.istore 4, 2) := by decide +kernel
theorem dX3_findRoughDepth_9 : decode cX3_findRoughDepth 9 = .ok (.iload 4, 2) := by decide +kernel
theorem dX3_findRoughDepth_11 : decode cX3_findRoughDepth 11 = .ok (.aload_n 1, 1) := by decide +kernel
theorem dX3_findRoughDepth_12 : decode cX3_findRoughDepth 12 = .ok (.iload_n 2, 1) := by decide +kernel
theorem dX3_findRoughDepth_13 : decode cX3_findRoughDepth 13 = .ok (.invokevirtual 125, 3) := by decide +kernel
theorem dX3_findRoughDepth_16 : decode cX3_findRoughDepth 16 = .ok (.if_icmp .ge 69, 3) := by decide +kernel
theorem dX3_findRoughDepth_19 : decode cX3_findRoughDepth 19 = .ok (.iload 4, 2) := by decide +kernel
theorem dX3_findRoughDepth_21 : decode cX3_findRoughDepth 21 = .ok (.iconst 1, 1) := by decide +kernel
theorem dX3_findRoughDepth_22 : decode cX3_findRoughDepth 22 = .ok (.iadd, 1) := by decide +kernel
theorem dX3_findRoughDepth_23 : decode cX3_findRoughDepth 23 = .ok (.istore 5, 2) := by decide +kernel
theorem dX3_findRoughDepth_25 : decode cX3_findRoughDepth 25 = .ok (.iload 5, 2) := by decide +kernel
theorem dX3_findRoughDepth_27 : decode cX3_findRoughDepth 27 = .ok (.aload_n 1, 1) := by decide +kernel
theorem dX3_findRoughDepth_28 : decode cX3_findRoughDepth 28 = .ok (.iload_n 2, 1) := by decide +kernel
theorem dX3_findRoughDepth_29 : decode cX3_findRoughDepth 29 = .ok (.invokevirtual 125, 3) := by decide +kernel
theorem dX3_findRoughDepth_32 : decode cX3_findRoughDepth 32 = .ok (.if_icmp .ge 47, 3) := by decide +kernel
theorem dX3_findRoughDepth_35 : decode cX3_findRoughDepth 35 = .ok (.aload_n 0, 1) := by decide +kernel
theorem dX3_findRoughDepth_36 : decode cX3_findRoughDepth 36 = .ok (.getfield 32, 3) := by decide +kernel
theorem dX3_findRoughDepth_39 : decode cX3_findRoughDepth 39 = .ok (.iload 4, 2) := by decide +kernel
theorem dX3_findRoughDepth_41 : decode cX3_findRoughDepth 41 = .ok (.aaload, 1) := by decide +kernel
theorem dX3_findRoughDepth_42 : decode cX3_findRoughDepth 42 = .ok (.aload_n 0, 1) := by decide +kernel
theorem dX3_findRoughDepth_43 : decode cX3_findRoughDepth 43 = .ok (.getfield 32, 3) := by decide +kernel
theorem dX3_findRoughDepth_46 : decode cX3_findRoughDepth 46 = .ok (.iload 5, 2) := by decide +kernel
theorem dX3_findRoughDepth_48 : decode cX3_findRoughDepth 48 = .ok (.aaload, 1) := by decide +kernel
theorem dX3_findRoughDepth_49 : decode cX3_findRoughDepth 49 = .ok (.invokestatic 132, 3) := by decide +kernel
theorem dX3_findRoughDepth_52 : decode cX3_findRoughDepth 52 = .ok (.istore 6, 2) := by decide +kernel
theorem dX3_findRoughDepth_54 : decode cX3_findRoughDepth 54 = .ok (.iload 6, 2) := by decide +kernel
theorem dX3_findRoughDepth_56 : decode cX3_findRoughDepth 56 = .ok (.bipush (-9), 2) := by decide +kernel
theorem dX3_findRoughDepth_58 : decode cX3_findRoughDepth 58 = .ok (.if_icmp .ne 6, 3) := by decide +kernel
theorem dX3_findRoughDepth_61 : decode cX3_findRoughDepth 61 = .ok (.bipush (-9), 2) := by decide +kernel
theorem dX3_findRoughDepth_63 : decode cX3_findRoughDepth 63 = .ok (.ireturn, 1) := by decide +kernel
theorem dX3_findRoughDepth_64 : decode cX3_findRoughDepth 64 = .ok (.iload_n 3, 1) := by decide +kernel
theorem dX3_findRoughDepth_65 : decode cX3_findRoughDepth 65 = .ok (.iload 6, 2) := by decide +kernel
theorem dX3_findRoughDepth_67 : decode cX3_findRoughDepth 67 = .ok (.iconst 1, 1) := by decide +kernel
theorem dX3_findRoughDepth_68 : decode cX3_findRoughDepth 68 = .ok (.iadd, 1) := by decide +kernel
theorem dX3_findRoughDepth_69 : decode cX3_findRoughDepth 69 = .ok (.invokestatic 52, 3) := by decide +kernel
theorem dX3_findRoughDepth_72 : decode cX3_findRoughDepth 72 = .ok (.istore_n 3, 1) := by decide +kernel
theorem dX3_findRoughDepth_73 : decode cX3_findRoughDepth 73 = .ok (.iinc 5 1, 3) := by decide +kernel
theorem dX3_findRoughDepth_76 : decode cX3_findRoughDepth 76 = .ok (.goto (-51), 3) := by decide +kernel
theorem dX3_findRoughDepth_79 : decode cX3_findRoughDepth 79 = .ok (.iinc 4 1, 3) := by decide +kernel
theorem dX3_findRoughDepth_82 : decode cX3_findRoughDepth 82 = .ok (.goto (-73), 3) := by decide +kernel
theorem dX3_findRoughDepth_85 : decode cX3_findRoughDepth 85 = .ok (.iload_n 3, 1) := by decide +kernel
theorem dX3_findRoughDepth_86 : decode cX3_findRoughDepth 86 = .ok (.ireturn, 1) := by decide +kernel
theorem dX3_partingPlace_0 : decode cX3_partingPlace 0 = .ok (.iconst 0, 1) := by decide +kernel
theorem dX3_partingPlace_1 : decode cX3_partingPlace 1 = .ok (.istore_n 2, 1) := by decide +kernel
theorem dX3_partingPlace_2 : decode cX3_partingPlace 2 = .ok (.iload_n 2, 1) := by decide +kernel
theorem dX3_partingPlace_3 : decode cX3_partingPlace 3 = .ok (.iconst 3, 1) := by decide +kernel
theorem dX3_partingPlace_4 : decode cX3_partingPlace 4 = .ok (.if_icmp .ge 25, 3) := by decide +kernel
theorem dX3_partingPlace_7 : decode cX3_partingPlace 7 = .ok (.aload_n 0, 1) := by decide +kernel
theorem dX3_partingPlace_8 : decode cX3_partingPlace 8 = .ok (.iload_n 2, 1) := by decide +kernel
theorem dX3_partingPlace_9 : decode cX3_partingPlace 9 = .ok (.invokevirtual 136, 3) := by decide +kernel
theorem dX3_partingPlace_12 : decode cX3_partingPlace 12 = .ok (.aload_n 1, 1) := by decide +kernel
theorem dX3_partingPlace_13 : decode cX3_partingPlace 13 = .ok (.iload_n 2, 1) := by decide +kernel
theorem dX3_partingPlace_14 : decode cX3_partingPlace 14 = .ok (.invokevirtual 136, 3) := by decide +kernel
theorem dX3_partingPlace_17 : decode cX3_partingPlace 17 = .ok (.iand, 1) := by decide +kernel
theorem dX3_partingPlace_18 : decode cX3_partingPlace 18 = .ok (.ifCond .ne 5, 3) := by decide +kernel
theorem dX3_partingPlace_21 : decode cX3_partingPlace 21 = .ok (.iload_n 2, 1) := by decide +kernel
theorem dX3_partingPlace_22 : decode cX3_partingPlace 22 = .ok (.ireturn, 1) := by decide +kernel
theorem dX3_partingPlace_23 : decode cX3_partingPlace 23 = .ok (.iinc 2 1, 3) := by decide +kernel
theorem dX3_partingPlace_26 : decode cX3_partingPlace 26 = .ok (.goto (-24), 3) := by decide +kernel
theorem dX3_partingPlace_29 : decode cX3_partingPlace 29 = .ok (.bipush (-9), 2) := by decide +kernel
theorem dX3_partingPlace_31 : decode cX3_partingPlace 31 = .ok (.ireturn, 1) := by decide +kernel
theorem dX4_init_0 : decode cX4_init 0 = .ok (.aload_n 0, 1) := by decide +kernel
theorem dX4_init_1 : decode cX4_init 1 = .ok (.invokespecial 3, 3) := by decide +kernel
theorem dX4_init_4 : decode cX4_init 4 = .ok (.aload_n 0, 1) := by decide +kernel
theorem dX4_init_5 : decode cX4_init 5 = .ok (.bipush 16, 2) := by decide +kernel
theorem dX4_init_7 : decode cX4_init 7 = .ok (.newarray .int, 2) := by decide +kernel
theorem dX4_init_9 : decode cX4_init 9 = .ok (.putfield 9, 3) := by decide +kernel
theorem dX4_init_12 : decode cX4_init 12 = .ok (.aload_n 0, 1) := by decide +kernel
theorem dX4_init_13 : decode cX4_init 13 = .ok (.bipush 16, 2) := by decide +kernel
theorem dX4_init_15 : decode cX4_init 15 = .ok (.newarray .int, 2) := by decide +kernel
theorem dX4_init_17 : decode cX4_init 17 = .ok (.putfield 15, 3) := by decide +kernel
theorem dX4_init_20 : decode cX4_init 20 = .ok (.aload_n 0, 1) := by decide +kernel
theorem dX4_init_21 : decode cX4_init 21 = .ok (.bipush 80, 2) := by decide +kernel
theorem dX4_init_23 : decode cX4_init 23 = .ok (.newarray .int, 2) := by decide +kernel
theorem dX4_init_25 : decode cX4_init 25 = .ok (.putfield 18, 3) := by decide +kernel
theorem dX4_init_28 : decode cX4_init 28 = .ok (.aload_n 0, 1) := by decide +kernel
theorem dX4_init_29 : decode cX4_init 29 = .ok (.bipush 6, 2) := by decide +kernel
theorem dX4_init_31 : decode cX4_init 31 = .ok (.newarray .int, 2) := by decide +kernel
theorem dX4_init_33 : decode cX4_init 33 = .ok (.putfield 21, 3) := by decide +kernel
theorem dX4_init_36 : decode cX4_init 36 = .ok (.aload_n 0, 1) := by decide +kernel
theorem dX4_init_37 : decode cX4_init 37 = .ok (.bipush 6, 2) := by decide +kernel
theorem dX4_init_39 : decode cX4_init 39 = .ok (.newarray .int, 2) := by decide +kernel
theorem dX4_init_41 : decode cX4_init 41 = .ok (.putfield 24, 3) := by decide +kernel
theorem dX4_init_44 : decode cX4_init 44 = .ok (.aload_n 0, 1) := by decide +kernel
theorem dX4_init_45 : decode cX4_init 45 = .ok (.iconst 0, 1) := by decide +kernel
theorem dX4_init_46 : decode cX4_init 46 = .ok (.putfield 27, 3) := by decide +kernel
theorem dX4_init_49 : decode cX4_init 49 = .ok (.aload_n 0, 1) := by decide +kernel
theorem dX4_init_50 : decode cX4_init 50 = .ok (.iconst 0, 1) := by decide +kernel
theorem dX4_init_51 : decode cX4_init 51 = .ok (.putfield 31, 3) := by decide +kernel
theorem dX4_init_54 : decode cX4_init 54 = .ok (.return_, 1) := by decide +kernel
theorem dX4_drop_0 : decode cX4_drop 0 = .ok (.aload_n 0, 1) := by decide +kernel
theorem dX4_drop_1 : decode cX4_drop 1 = .ok (.iconst 0, 1) := by decide +kernel
theorem dX4_drop_2 : decode cX4_drop 2 = .ok (.putfield 27, 3) := by decide +kernel
theorem dX4_drop_5 : decode cX4_drop 5 = .ok (.aload_n 0, 1) := by decide +kernel
theorem dX4_drop_6 : decode cX4_drop 6 = .ok (.iconst 0, 1) := by decide +kernel
theorem dX4_drop_7 : decode cX4_drop 7 = .ok (.putfield 31, 3) := by decide +kernel
theorem dX4_drop_10 : decode cX4_drop 10 = .ok (.aload_n 0, 1) := by decide +kernel
theorem dX4_drop_11 : decode cX4_drop 11 = .ok (.getfield 21, 3) := by decide +kernel
theorem dX4_drop_14 : decode cX4_drop 14 = .ok (.iconst 0, 1) := by decide +kernel
theorem dX4_drop_15 : decode cX4_drop 15 = .ok (.invokestatic 34, 3) := by decide +kernel
theorem dX4_drop_18 : decode cX4_drop 18 = .ok (.aload_n 0, 1) := by decide +kernel
theorem dX4_drop_19 : decode cX4_drop 19 = .ok (.getfield 24, 3) := by decide +kernel
theorem dX4_drop_22 : decode cX4_drop 22 = .ok (.iconst 0, 1) := by decide +kernel
theorem dX4_drop_23 : decode cX4_drop 23 = .ok (.invokestatic 34, 3) := by decide +kernel
theorem dX4_drop_26 : decode cX4_drop 26 = .ok (.return_, 1) := by decide +kernel
theorem dX4_open_0 : decode cX4_open 0 = .ok (.aload_n 0, 1) := by decide +kernel
theorem dX4_open_1 : decode cX4_open 1 = .ok (.getfield 27, 3) := by decide +kernel
theorem dX4_open_4 : decode cX4_open 4 = .ok (.bipush 16, 2) := by decide +kernel
theorem dX4_open_6 : decode cX4_open 6 = .ok (.if_icmp .ge 13, 3) := by decide +kernel
theorem dX4_open_9 : decode cX4_open 9 = .ok (.iload_n 1, 1) := by decide +kernel
theorem dX4_open_10 : decode cX4_open 10 = .ok (.ifCond .lt 9, 3) := by decide +kernel
theorem dX4_open_13 : decode cX4_open 13 = .ok (.iload_n 1, 1) := by decide +kernel
theorem dX4_open_14 : decode cX4_open 14 = .ok (.bipush 6, 2) := by decide +kernel
theorem dX4_open_16 : decode cX4_open 16 = .ok (.if_icmp .lt 5, 3) := by decide +kernel
theorem dX4_open_19 : decode cX4_open 19 = .ok (.iconst 0, 1) := by decide +kernel
theorem dX4_open_20 : decode cX4_open 20 = .ok (.ireturn, 1) := by decide +kernel
theorem dX4_open_21 : decode cX4_open 21 = .ok (.aload_n 0, 1) := by decide +kernel
theorem dX4_open_22 : decode cX4_open 22 = .ok (.getfield 31, 3) := by decide +kernel
theorem dX4_open_25 : decode cX4_open 25 = .ok (.iload_n 1, 1) := by decide +kernel
theorem dX4_open_26 : decode cX4_open 26 = .ok (.invokestatic 40, 3) := by decide +kernel
theorem dX4_open_29 : decode cX4_open 29 = .ok (.ifCond .ne 25, 3) := by decide +kernel
theorem dX4_open_32 : decode cX4_open 32 = .ok (.aload_n 0, 1) := by decide +kernel
theorem dX4_open_33 : decode cX4_open 33 = .ok (.dup, 1) := by decide +kernel
theorem dX4_open_34 : decode cX4_open 34 = .ok (.getfield 31, 3) := by decide +kernel
theorem dX4_open_37 : decode cX4_open 37 = .ok (.iconst 1, 1) := by decide +kernel
theorem dX4_open_38 : decode cX4_open 38 = .ok (.iload_n 1, 1) := by decide +kernel
theorem dX4_open_39 : decode cX4_open 39 = .ok (.ishl, 1) := by decide +kernel
theorem dX4_open_40 : decode cX4_open 40 = .ok (.ior, 1) := by decide +kernel
theorem dX4_open_41 : decode cX4_open 41 = .ok (.putfield 31, 3) := by decide +kernel
theorem dX4_open_44 : decode cX4_open 44 = .ok (.aload_n 0, 1) := by decide +kernel
theorem dX4_open_45 : decode cX4_open 45 = .ok (.getfield 21, 3) := by decide +kernel
theorem dX4_open_48 : decode cX4_open 48 = .ok (.iload_n 1, 1) := by decide +kernel
theorem dX4_open_49 : decode cX4_open 49 = .ok (.aload_n 0, 1) := by decide +kernel
theorem dX4_open_50 : decode cX4_open 50 = .ok (.getfield 27, 3) := by decide +kernel
theorem dX4_open_53 : decode cX4_open 53 = .ok (.iastore, 1) := by decide +kernel
theorem dX4_open_54 : decode cX4_open 54 = .ok (.aload_n 0, 1) := by decide +kernel
theorem dX4_open_55 : decode cX4_open 55 = .ok (.getfield 9, 3) := by decide +kernel
theorem dX4_open_58 : decode cX4_open 58 = .ok (.aload_n 0, 1) := by decide +kernel
theorem dX4_open_59 : decode cX4_open 59 = .ok (.getfield 27, 3) := by decide +kernel
theorem dX4_open_62 : decode cX4_open 62 = .ok (.iload_n 1, 1) := by decide +kernel
theorem dX4_open_63 : decode cX4_open 63 = .ok (.iastore, 1) := by decide +kernel
theorem dX4_open_64 : decode cX4_open 64 = .ok (.aload_n 0, 1) := by decide +kernel
theorem dX4_open_65 : decode cX4_open 65 = .ok (.getfield 15, 3) := by decide +kernel
theorem dX4_open_68 : decode cX4_open 68 = .ok (.aload_n 0, 1) := by decide +kernel
theorem dX4_open_69 : decode cX4_open 69 = .ok (.getfield 27, 3) := by decide +kernel
theorem dX4_open_72 : decode cX4_open 72 = .ok (.iconst 0, 1) := by decide +kernel
theorem dX4_open_73 : decode cX4_open 73 = .ok (.iastore, 1) := by decide +kernel
theorem dX4_open_74 : decode cX4_open 74 = .ok (.aload_n 0, 1) := by decide +kernel
theorem dX4_open_75 : decode cX4_open 75 = .ok (.dup, 1) := by decide +kernel
theorem dX4_open_76 : decode cX4_open 76 = .ok (.getfield 27, 3) := by decide +kernel
theorem dX4_open_79 : decode cX4_open 79 = .ok (.iconst 1, 1) := by decide +kernel
theorem dX4_open_80 : decode cX4_open 80 = .ok (.iadd, 1) := by decide +kernel
theorem dX4_open_81 : decode cX4_open 81 = .ok (.putfield 27, 3) := by decide +kernel
theorem dX4_open_84 : decode cX4_open 84 = .ok (.aload_n 0, 1) := by decide +kernel
theorem dX4_open_85 : decode cX4_open 85 = .ok (.getfield 24, 3) := by decide +kernel
theorem dX4_open_88 : decode cX4_open 88 = .ok (.iload_n 1, 1) := by decide +kernel
theorem dX4_open_89 : decode cX4_open 89 = .ok (.aload_n 0, 1) := by decide +kernel
theorem dX4_open_90 : decode cX4_open 90 = .ok (.getfield 27, 3) := by decide +kernel
theorem dX4_open_93 : decode cX4_open 93 = .ok (.iastore, 1) := by decide +kernel
theorem dX4_open_94 : decode cX4_open 94 = .ok (.iconst 1, 1) := by decide +kernel
theorem dX4_open_95 : decode cX4_open 95 = .ok (.ireturn, 1) := by decide +kernel
theorem dX4_append_0 : decode cX4_append 0 = .ok (.aload_n 0, 1) := by decide +kernel
theorem dX4_append_1 : decode cX4_append 1 = .ok (.getfield 27, 3) := by decide +kernel
theorem dX4_append_4 : decode cX4_append 4 = .ok (.iconst 1, 1) := by decide +kernel
theorem dX4_append_5 : decode cX4_append 5 = .ok (.isub, 1) := by decide +kernel
theorem dX4_append_6 : decode cX4_append 6 = .ok (.istore_n 2, 1) := by decide +kernel
theorem dX4_append_7 : decode cX4_append 7 = .ok (.iload_n 2, 1) := by decide +kernel
theorem dX4_append_8 : decode cX4_append 8 = .ok (.ifCond .lt 13, 3) := by decide +kernel
theorem dX4_append_11 : decode cX4_append 11 = .ok (.aload_n 0, 1) := by decide +kernel
theorem dX4_append_12 : decode cX4_append 12 = .ok (.getfield 15, 3) := by decide +kernel
theorem dX4_append_15 : decode cX4_append 15 = .ok (.iload_n 2, 1) := by decide +kernel
theorem dX4_append_16 : decode cX4_append 16 = .ok (.iaload, 1) := by decide +kernel
theorem dX4_append_17 : decode cX4_append 17 = .ok (.iconst 5, 1) := by decide +kernel
theorem dX4_append_18 : decode cX4_append 18 = .ok (.if_icmp .lt 5, 3) := by decide +kernel
theorem dX4_append_21 : decode cX4_append 21 = .ok (.iconst 0, 1) := by decide +kernel
theorem dX4_append_22 : decode cX4_append 22 = .ok (.ireturn, 1) := by decide +kernel
theorem dX4_append_23 : decode cX4_append 23 = .ok (.aload_n 0, 1) := by decide +kernel
theorem dX4_append_24 : decode cX4_append 24 = .ok (.getfield 18, 3) := by decide +kernel
theorem dX4_append_27 : decode cX4_append 27 = .ok (.iload_n 2, 1) := by decide +kernel
theorem dX4_append_28 : decode cX4_append 28 = .ok (.iconst 5, 1) := by decide +kernel
theorem dX4_append_29 : decode cX4_append 29 = .ok (.imul, 1) := by decide +kernel
theorem dX4_append_30 : decode cX4_append 30 = .ok (.aload_n 0, 1) := by decide +kernel
theorem dX4_append_31 : decode cX4_append 31 = .ok (.getfield 15, 3) := by decide +kernel
theorem dX4_append_34 : decode cX4_append 34 = .ok (.iload_n 2, 1) := by decide +kernel
theorem dX4_append_35 : decode cX4_append 35 = .ok (.iaload, 1) := by decide +kernel
theorem dX4_append_36 : decode cX4_append 36 = .ok (.iadd, 1) := by decide +kernel
theorem dX4_append_37 : decode cX4_append 37 = .ok (.iload_n 1, 1) := by decide +kernel
theorem dX4_append_38 : decode cX4_append 38 = .ok (.iastore, 1) := by decide +kernel
theorem dX4_append_39 : decode cX4_append 39 = .ok (.aload_n 0, 1) := by decide +kernel
theorem dX4_append_40 : decode cX4_append 40 = .ok (.getfield 15, 3) := by decide +kernel
theorem dX4_append_43 : decode cX4_append 43 = .ok (.iload_n 2, 1) := by decide +kernel
theorem dX4_append_44 : decode cX4_append 44 = .ok (.dup2, 1) := by decide +kernel
theorem dX4_append_45 : decode cX4_append 45 = .ok (.iaload, 1) := by decide +kernel
theorem dX4_append_46 : decode cX4_append 46 = .ok (.iconst 1, 1) := by decide +kernel
theorem dX4_append_47 : decode cX4_append 47 = .ok (.iadd, 1) := by decide +kernel
theorem dX4_append_48 : decode cX4_append 48 = .ok (.iastore, 1) := by decide +kernel
theorem dX4_append_49 : decode cX4_append 49 = .ok (.iconst 1, 1) := by decide +kernel
theorem dX4_append_50 : decode cX4_append 50 = .ok (.ireturn, 1) := by decide +kernel
theorem dX4_has_0 : decode cX4_has 0 = .ok (.iload_n 1, 1) := by decide +kernel
theorem dX4_has_1 : decode cX4_has 1 = .ok (.ifCond .lt 15, 3) := by decide +kernel
theorem dX4_has_4 : decode cX4_has 4 = .ok (.iload_n 1, 1) := by decide +kernel
theorem dX4_has_5 : decode cX4_has 5 = .ok (.aload_n 0, 1) := by decide +kernel
theorem dX4_has_6 : decode cX4_has 6 = .ok (.getfield 27, 3) := by decide +kernel
theorem dX4_has_9 : decode cX4_has 9 = .ok (.if_icmp .ge 7, 3) := by decide +kernel
theorem dX4_has_12 : decode cX4_has 12 = .ok (.iconst 1, 1) := by decide +kernel
theorem dX4_has_13 : decode cX4_has 13 = .ok (.goto 4, 3) := by decide +kernel
theorem dX4_has_16 : decode cX4_has 16 = .ok (.iconst 0, 1) := by decide +kernel
theorem dX4_has_17 : decode cX4_has 17 = .ok (.ireturn, 1) := by decide +kernel
theorem dX4_count_0 : decode cX4_count 0 = .ok (.aload_n 0, 1) := by decide +kernel
theorem dX4_count_1 : decode cX4_count 1 = .ok (.getfield 27, 3) := by decide +kernel
theorem dX4_count_4 : decode cX4_count 4 = .ok (.ireturn, 1) := by decide +kernel
theorem dX4_defined_0 : decode cX4_defined 0 = .ok (.aload_n 0, 1) := by decide +kernel
theorem dX4_defined_1 : decode cX4_defined 1 = .ok (.getfield 31, 3) := by decide +kernel
theorem dX4_defined_4 : decode cX4_defined 4 = .ok (.ireturn, 1) := by decide +kernel
theorem dX4_start_0 : decode cX4_start 0 = .ok (.aload_n 0, 1) := by decide +kernel
theorem dX4_start_1 : decode cX4_start 1 = .ok (.getfield 9, 3) := by decide +kernel
theorem dX4_start_4 : decode cX4_start 4 = .ok (.iconst 0, 1) := by decide +kernel
theorem dX4_start_5 : decode cX4_start 5 = .ok (.iaload, 1) := by decide +kernel
theorem dX4_start_6 : decode cX4_start 6 = .ok (.ireturn, 1) := by decide +kernel
theorem dX4_left_0 : decode cX4_left 0 = .ok (.aload_n 0, 1) := by decide +kernel
theorem dX4_left_1 : decode cX4_left 1 = .ok (.getfield 9, 3) := by decide +kernel
theorem dX4_left_4 : decode cX4_left 4 = .ok (.iload_n 1, 1) := by decide +kernel
theorem dX4_left_5 : decode cX4_left 5 = .ok (.iaload, 1) := by decide +kernel
theorem dX4_left_6 : decode cX4_left 6 = .ok (.ireturn, 1) := by decide +kernel
theorem dX4_length_0 : decode cX4_length 0 = .ok (.aload_n 0, 1) := by decide +kernel
theorem dX4_length_1 : decode cX4_length 1 = .ok (.getfield 15, 3) := by decide +kernel
theorem dX4_length_4 : decode cX4_length 4 = .ok (.iload_n 1, 1) := by decide +kernel
theorem dX4_length_5 : decode cX4_length 5 = .ok (.iaload, 1) := by decide +kernel
theorem dX4_length_6 : decode cX4_length 6 = .ok (.ireturn, 1) := by decide +kernel
theorem dX4_symbolAt_0 : decode cX4_symbolAt 0 = .ok (.aload_n 0, 1) := by decide +kernel
theorem dX4_symbolAt_1 : decode cX4_symbolAt 1 = .ok (.getfield 18, 3) := by decide +kernel
theorem dX4_symbolAt_4 : decode cX4_symbolAt 4 = .ok (.iload_n 1, 1) := by decide +kernel
theorem dX4_symbolAt_5 : decode cX4_symbolAt 5 = .ok (.iconst 5, 1) := by decide +kernel
theorem dX4_symbolAt_6 : decode cX4_symbolAt 6 = .ok (.imul, 1) := by decide +kernel
theorem dX4_symbolAt_7 : decode cX4_symbolAt 7 = .ok (.iload_n 2, 1) := by decide +kernel
theorem dX4_symbolAt_8 : decode cX4_symbolAt 8 = .ok (.iadd, 1) := by decide +kernel
theorem dX4_symbolAt_9 : decode cX4_symbolAt 9 = .ok (.iaload, 1) := by decide +kernel
theorem dX4_symbolAt_10 : decode cX4_symbolAt 10 = .ok (.ireturn, 1) := by decide +kernel
theorem dX4_begin_0 : decode cX4_begin 0 = .ok (.aload_n 0, 1) := by decide +kernel
theorem dX4_begin_1 : decode cX4_begin 1 = .ok (.getfield 21, 3) := by decide +kernel
theorem dX4_begin_4 : decode cX4_begin 4 = .ok (.iload_n 1, 1) := by decide +kernel
theorem dX4_begin_5 : decode cX4_begin 5 = .ok (.iaload, 1) := by decide +kernel
theorem dX4_begin_6 : decode cX4_begin 6 = .ok (.ireturn, 1) := by decide +kernel
theorem dX4_end_0 : decode cX4_end 0 = .ok (.aload_n 0, 1) := by decide +kernel
theorem dX4_end_1 : decode cX4_end 1 = .ok (.getfield 24, 3) := by decide +kernel
theorem dX4_end_4 : decode cX4_end 4 = .ok (.iload_n 1, 1) := by decide +kernel
theorem dX4_end_5 : decode cX4_end 5 = .ok (.iaload, 1) := by decide +kernel
theorem dX4_end_6 : decode cX4_end 6 = .ok (.ireturn, 1) := by decide +kernel
theorem dX5_init_0 : decode cX5_init 0 = .ok (.aload_n 0, 1) := by decide +kernel
theorem dX5_init_1 : decode cX5_init 1 = .ok (.invokespecial 3, 3) := by decide +kernel
theorem dX5_init_4 : decode cX5_init 4 = .ok (.aload_n 0, 1) := by decide +kernel
theorem dX5_init_5 : decode cX5_init 5 = .ok (.iconst 4, 1) := by decide +kernel
theorem dX5_init_6 : decode cX5_init 6 = .ok (.anewarray 9, 3) := by decide +kernel
theorem dX5_init_9 : decode cX5_init 9 = .ok (.putfield 11, 3) := by decide +kernel
theorem dX5_init_12 : decode cX5_init 12 = .ok (.aload_n 0, 1) := by decide +kernel
theorem dX5_init_13 : decode cX5_init 13 = .ok (.iconst 0, 1) := by decide +kernel
theorem dX5_init_14 : decode cX5_init 14 = .ok (.putfield 17, 3) := by decide +kernel
theorem dX5_init_17 : decode cX5_init 17 = .ok (.iconst 0, 1) := by decide +kernel
theorem dX5_init_18 : decode cX5_init 18 = .ok (.istore_n 1, 1) := by decide +kernel
theorem dX5_init_19 : decode cX5_init 19 = .ok (.iload_n 1, 1) := by decide +kernel
theorem dX5_init_20 : decode cX5_init 20 = .ok (.iconst 4, 1) := by decide +kernel
theorem dX5_init_21 : decode cX5_init 21 = .ok (.if_icmp .ge 22, 3) := by decide +kernel
theorem dX5_init_24 : decode cX5_init 24 = .ok (.aload_n 0, 1) := by decide +kernel
theorem dX5_init_25 : decode cX5_init 25 = .ok (.getfield 11, 3) := by decide +kernel
theorem dX5_init_28 : decode cX5_init 28 = .ok (.iload_n 1, 1) := by decide +kernel
theorem dX5_init_29 : decode cX5_init 29 = .ok (.new 9, 3) := by decide +kernel
theorem dX5_init_32 : decode cX5_init 32 = .ok (.dup, 1) := by decide +kernel
theorem dX5_init_33 : decode cX5_init 33 = .ok (.invokespecial 21, 3) := by decide +kernel
theorem dX5_init_36 : decode cX5_init 36 = .ok (.aastore, 1) := by decide +kernel
theorem dX5_init_37 : decode cX5_init 37 = .ok (.iinc 1 1, 3) := by decide +kernel
theorem dX5_init_40 : decode cX5_init 40 = .ok (.goto (-21), 3) := by decide +kernel
theorem dX5_init_43 : decode cX5_init 43 = .ok (.return_, 1) := by decide +kernel
theorem dX5_count_0 : decode cX5_count 0 = .ok (.aload_n 0, 1) := by decide +kernel
theorem dX5_count_1 : decode cX5_count 1 = .ok (.getfield 17, 3) := by decide +kernel
theorem dX5_count_4 : decode cX5_count 4 = .ok (.ireturn, 1) := by decide +kernel
theorem dX5_remember_0 : decode cX5_remember 0 = .ok (.aload_n 0, 1) := by decide +kernel
theorem dX5_remember_1 : decode cX5_remember 1 = .ok (.getfield 17, 3) := by decide +kernel
theorem dX5_remember_4 : decode cX5_remember 4 = .ok (.iconst 4, 1) := by decide +kernel
theorem dX5_remember_5 : decode cX5_remember 5 = .ok (.if_icmp .ge 35, 3) := by decide +kernel
theorem dX5_remember_8 : decode cX5_remember 8 = .ok (.aload_n 0, 1) := by decide +kernel
theorem dX5_remember_9 : decode cX5_remember 9 = .ok (.getfield 11, 3) := by decide +kernel
theorem dX5_remember_12 : decode cX5_remember 12 = .ok (.aload_n 0, 1) := by decide +kernel
theorem dX5_remember_13 : decode cX5_remember 13 = .ok (.getfield 17, 3) := by decide +kernel
theorem dX5_remember_16 : decode cX5_remember 16 = .ok (.aaload, 1) := by decide +kernel
theorem dX5_remember_17 : decode cX5_remember 17 = .ok (.astore_n 2, 1) := by decide +kernel
theorem dX5_remember_18 : decode cX5_remember 18 = .ok (.aload_n 0, 1) := by decide +kernel
theorem dX5_remember_19 : decode cX5_remember 19 = .ok (.getfield 11, 3) := by decide +kernel
theorem dX5_remember_22 : decode cX5_remember 22 = .ok (.aload_n 0, 1) := by decide +kernel
theorem dX5_remember_23 : decode cX5_remember 23 = .ok (.getfield 17, 3) := by decide +kernel
theorem dX5_remember_26 : decode cX5_remember 26 = .ok (.aload_n 1, 1) := by decide +kernel
theorem dX5_remember_27 : decode cX5_remember 27 = .ok (.aastore, 1) := by decide +kernel
theorem dX5_remember_28 : decode cX5_remember 28 = .ok (.aload_n 0, 1) := by decide +kernel
theorem dX5_remember_29 : decode cX5_remember 29 = .ok (.dup, 1) := by decide +kernel
theorem dX5_remember_30 : decode cX5_remember 30 = .ok (.getfield 17, 3) := by decide +kernel
theorem dX5_remember_33 : decode cX5_remember 33 = .ok (.iconst 1, 1) := by decide +kernel
theorem dX5_remember_34 : decode cX5_remember 34 = .ok (.iadd, 1) := by decide +kernel
theorem dX5_remember_35 : decode cX5_remember 35 = .ok (.putfield 17, 3) := by decide +kernel
theorem dX5_remember_38 : decode cX5_remember 38 = .ok (.aload_n 2, 1) := by decide +kernel
theorem dX5_remember_39 : decode cX5_remember 39 = .ok (.areturn, 1) := by decide +kernel
theorem dX5_remember_40 : decode cX5_remember 40 = .ok (.aload_n 0, 1) := by decide +kernel
theorem dX5_remember_41 : decode cX5_remember 41 = .ok (.getfield 11, 3) := by decide +kernel
theorem dX5_remember_44 : decode cX5_remember 44 = .ok (.iconst 0, 1) := by decide +kernel
theorem dX5_remember_45 : decode cX5_remember 45 = .ok (.aaload, 1) := by decide +kernel
theorem dX5_remember_46 : decode cX5_remember 46 = .ok (.astore_n 2, 1) := by decide +kernel
theorem dX5_remember_47 : decode cX5_remember 47 = .ok (.iconst 1, 1) := by decide +kernel
theorem dX5_remember_48 : decode cX5_remember 48 = .ok (.istore_n 3, 1) := by decide +kernel
theorem dX5_remember_49 : decode cX5_remember 49 = .ok (.iload_n 3, 1) := by decide +kernel
theorem dX5_remember_50 : decode cX5_remember 50 = .ok (.iconst 4, 1) := by decide +kernel
theorem dX5_remember_51 : decode cX5_remember 51 = .ok (.if_icmp .ge 23, 3) := by decide +kernel
theorem dX5_remember_54 : decode cX5_remember 54 = .ok (.aload_n 0, 1) := by decide +kernel
theorem dX5_remember_55 : decode cX5_remember 55 = .ok (.getfield 11, 3) := by decide +kernel
theorem dX5_remember_58 : decode cX5_remember 58 = .ok (.iload_n 3, 1) := by decide +kernel
theorem dX5_remember_59 : decode cX5_remember 59 = .ok (.iconst 1, 1) := by decide +kernel
theorem dX5_remember_60 : decode cX5_remember 60 = .ok (.isub, 1) := by decide +kernel
theorem dX5_remember_61 : decode cX5_remember 61 = .ok (.aload_n 0, 1) := by decide +kernel
theorem dX5_remember_62 : decode cX5_remember 62 = .ok (.getfield 11, 3) := by decide +kernel
theorem dX5_remember_65 : decode cX5_remember 65 = .ok (.iload_n 3, 1) := by decide +kernel
theorem dX5_remember_66 : decode cX5_remember 66 = .ok (.aaload, 1) := by decide +kernel
theorem dX5_remember_67 : decode cX5_remember 67 = .ok (.aastore, 1) := by decide +kernel
theorem dX5_remember_68 : decode cX5_remember 68 = .ok (.iinc 3 1, 3) := by decide +kernel
theorem dX5_remember_71 : decode cX5_remember 71 = .ok (.goto (-22), 3) := by decide +kernel
theorem dX5_remember_74 : decode cX5_remember 74 = .ok (.aload_n 0, 1) := by decide +kernel
theorem dX5_remember_75 : decode cX5_remember 75 = .ok (.getfield 11, 3) := by decide +kernel
theorem dX5_remember_78 : decode cX5_remember 78 = .ok (.iconst 3, 1) := by decide +kernel
theorem dX5_remember_79 : decode cX5_remember 79 = .ok (.aload_n 1, 1) := by decide +kernel
theorem dX5_remember_80 : decode cX5_remember 80 = .ok (.aastore, 1) := by decide +kernel
theorem dX5_remember_81 : decode cX5_remember 81 = .ok (.aload_n 2, 1) := by decide +kernel
theorem dX5_remember_82 : decode cX5_remember 82 = .ok (.areturn, 1) := by decide +kernel
theorem dX5_exchangeLatest_0 : decode cX5_exchangeLatest 0 = .ok (.aload_n 0, 1) := by decide +kernel
theorem dX5_exchangeLatest_1 : decode cX5_exchangeLatest 1 = .ok (.getfield 17, 3) := by decide +kernel
theorem dX5_exchangeLatest_4 : decode cX5_exchangeLatest 4 = .ok (.ifCond .ne 5, 3) := by decide +kernel
theorem dX5_exchangeLatest_7 : decode cX5_exchangeLatest 7 = .ok (.aload_n 1, 1) := by decide +kernel
theorem dX5_exchangeLatest_8 : decode cX5_exchangeLatest 8 = .ok (.areturn, 1) := by decide +kernel
theorem dX5_exchangeLatest_9 : decode cX5_exchangeLatest 9 = .ok (.aload_n 0, 1) := by decide +kernel
theorem dX5_exchangeLatest_10 : decode cX5_exchangeLatest 10 = .ok (.dup, 1) := by decide +kernel
theorem dX5_exchangeLatest_11 : decode cX5_exchangeLatest 11 = .ok (.getfield 17, 3) := by decide +kernel
theorem dX5_exchangeLatest_14 : decode cX5_exchangeLatest 14 = .ok (.iconst 1, 1) := by decide +kernel
theorem dX5_exchangeLatest_15 : decode cX5_exchangeLatest 15 = .ok (.isub, 1) := by decide +kernel
theorem dX5_exchangeLatest_16 : decode cX5_exchangeLatest 16 = .ok (.putfield 17, 3) := by decide +kernel
theorem dX5_exchangeLatest_19 : decode cX5_exchangeLatest 19 = .ok (.aload_n 0, 1) := by decide +kernel
theorem dX5_exchangeLatest_20 : decode cX5_exchangeLatest 20 = .ok (.getfield 11, 3) := by decide +kernel
theorem dX5_exchangeLatest_23 : decode cX5_exchangeLatest 23 = .ok (.aload_n 0, 1) := by decide +kernel
theorem dX5_exchangeLatest_24 : decode cX5_exchangeLatest 24 = .ok (.getfield 17, 3) := by decide +kernel
theorem dX5_exchangeLatest_27 : decode cX5_exchangeLatest 27 = .ok (.aaload, 1) := by decide +kernel
theorem dX5_exchangeLatest_28 : decode cX5_exchangeLatest 28 = .ok (.astore_n 2, 1) := by decide +kernel
theorem dX5_exchangeLatest_29 : decode cX5_exchangeLatest 29 = .ok (.aload_n 0, 1) := by decide +kernel
theorem dX5_exchangeLatest_30 : decode cX5_exchangeLatest 30 = .ok (.getfield 11, 3) := by decide +kernel
theorem dX5_exchangeLatest_33 : decode cX5_exchangeLatest 33 = .ok (.aload_n 0, 1) := by decide +kernel
theorem dX5_exchangeLatest_34 : decode cX5_exchangeLatest 34 = .ok (.getfield 17, 3) := by decide +kernel
theorem dX5_exchangeLatest_37 : decode cX5_exchangeLatest 37 = .ok (.aload_n 1, 1) := by decide +kernel
theorem dX5_exchangeLatest_38 : decode cX5_exchangeLatest 38 = .ok (.aastore, 1) := by decide +kernel
theorem dX5_exchangeLatest_39 : decode cX5_exchangeLatest 39 = .ok (.aload_n 2, 1) := by decide +kernel
theorem dX5_exchangeLatest_40 : decode cX5_exchangeLatest 40 = .ok (.areturn, 1) := by decide +kernel
theorem dX6_init_0 : decode cX6_init 0 = .ok (.aload_n 0, 1) := by decide +kernel
theorem dX6_init_1 : decode cX6_init 1 = .ok (.invokespecial 3, 3) := by decide +kernel
theorem dX6_init_4 : decode cX6_init 4 = .ok (.aload_n 0, 1) := by decide +kernel
theorem dX6_init_5 : decode cX6_init 5 = .ok (.sipush 301, 3) := by decide +kernel
theorem dX6_init_8 : decode cX6_init 8 = .ok (.newarray .int, 2) := by decide +kernel
theorem dX6_init_10 : decode cX6_init 10 = .ok (.putfield 9, 3) := by decide +kernel
theorem dX6_init_13 : decode cX6_init 13 = .ok (.aload_n 0, 1) := by decide +kernel
theorem dX6_init_14 : decode cX6_init 14 = .ok (.bipush 60, 2) := by decide +kernel
theorem dX6_init_16 : decode cX6_init 16 = .ok (.newarray .int, 2) := by decide +kernel
theorem dX6_init_18 : decode cX6_init 18 = .ok (.putfield 15, 3) := by decide +kernel
theorem dX6_init_21 : decode cX6_init 21 = .ok (.aload_n 0, 1) := by decide +kernel
theorem dX6_init_22 : decode cX6_init 22 = .ok (.iconst 0, 1) := by decide +kernel
theorem dX6_init_23 : decode cX6_init 23 = .ok (.putfield 18, 3) := by decide +kernel
theorem dX6_init_26 : decode cX6_init 26 = .ok (.aload_n 0, 1) := by decide +kernel
theorem dX6_init_27 : decode cX6_init 27 = .ok (.iconst 0, 1) := by decide +kernel
theorem dX6_init_28 : decode cX6_init 28 = .ok (.putfield 22, 3) := by decide +kernel
theorem dX6_init_31 : decode cX6_init 31 = .ok (.return_, 1) := by decide +kernel
theorem dX6_count_0 : decode cX6_count 0 = .ok (.aload_n 0, 1) := by decide +kernel
theorem dX6_count_1 : decode cX6_count 1 = .ok (.getfield 22, 3) := by decide +kernel
theorem dX6_count_4 : decode cX6_count 4 = .ok (.ireturn, 1) := by decide +kernel
theorem dX6_choice_0 : decode cX6_choice 0 = .ok (.aload_n 0, 1) := by decide +kernel
theorem dX6_choice_1 : decode cX6_choice 1 = .ok (.getfield 15, 3) := by decide +kernel
theorem dX6_choice_4 : decode cX6_choice 4 = .ok (.iload_n 1, 1) := by decide +kernel
theorem dX6_choice_5 : decode cX6_choice 5 = .ok (.iaload, 1) := by decide +kernel
theorem dX6_choice_6 : decode cX6_choice 6 = .ok (.ireturn, 1) := by decide +kernel
theorem dX6_forget_0 : decode cX6_forget 0 = .ok (.aload_n 0, 1) := by decide +kernel
theorem dX6_forget_1 : decode cX6_forget 1 = .ok (.iconst 0, 1) := by decide +kernel
theorem dX6_forget_2 : decode cX6_forget 2 = .ok (.putfield 22, 3) := by decide +kernel
theorem dX6_forget_5 : decode cX6_forget 5 = .ok (.return_, 1) := by decide +kernel
theorem dX6_run_0 : decode cX6_run 0 = .ok (.iconst 0, 1) := by decide +kernel
theorem dX6_run_1 : decode cX6_run 1 = .ok (.istore 4, 2) := by decide +kernel
theorem dX6_run_3 : decode cX6_run 3 = .ok (.aload_n 0, 1) := by decide +kernel
theorem dX6_run_4 : decode cX6_run 4 = .ok (.iconst 0, 1) := by decide +kernel
theorem dX6_run_5 : decode cX6_run 5 = .ok (.putfield 22, 3) := by decide +kernel
theorem dX6_run_8 : decode cX6_run 8 = .ok (.aload_n 0, 1) := by decide +kernel
theorem dX6_run_9 : decode cX6_run 9 = .ok (.getfield 9, 3) := by decide +kernel
theorem dX6_run_12 : decode cX6_run 12 = .ok (.iconst 0, 1) := by decide +kernel
theorem dX6_run_13 : decode cX6_run 13 = .ok (.bipush 10, 2) := by decide +kernel
theorem dX6_run_15 : decode cX6_run 15 = .ok (.aload_n 1, 1) := by decide +kernel
theorem dX6_run_16 : decode cX6_run 16 = .ok (.invokevirtual 25, 3) := by decide +kernel
theorem dX6_run_19 : decode cX6_run 19 = .ok (.iadd, 1) := by decide +kernel
theorem dX6_run_20 : decode cX6_run 20 = .ok (.iastore, 1) := by decide +kernel
theorem dX6_run_21 : decode cX6_run 21 = .ok (.aload_n 0, 1) := by decide +kernel
theorem dX6_run_22 : decode cX6_run 22 = .ok (.iconst 1, 1) := by decide +kernel
theorem dX6_run_23 : decode cX6_run 23 = .ok (.putfield 18, 3) := by decide +kernel
theorem dX6_run_26 : decode cX6_run 26 = .ok (.iconst 0, 1) := by decide +kernel
theorem dX6_run_27 : decode cX6_run 27 = .ok (.istore 5, 2) := by decide +kernel
theorem dX6_run_29 : decode cX6_run 29 = .ok (.iload 5, 2) := by decide +kernel
theorem dX6_run_31 : decode cX6_run 31 = .ok (.bipush 69, 2) := by decide +kernel
theorem dX6_run_33 : decode cX6_run 33 = .ok (.if_icmp .ge 131, 3) := by decide +kernel
theorem dX6_run_36 : decode cX6_run 36 = .ok (.aload_n 0, 1) := by decide +kernel
theorem dX6_run_37 : decode cX6_run 37 = .ok (.getfield 18, 3) := by decide +kernel
theorem dX6_run_40 : decode cX6_run 40 = .ok (.ifCond .le 124, 3) := by decide +kernel
theorem dX6_run_43 : decode cX6_run 43 = .ok (.aload_n 0, 1) := by decide +kernel
theorem dX6_run_44 : decode cX6_run 44 = .ok (.dup, 1) := by decide +kernel
theorem dX6_run_45 : decode cX6_run 45 = .ok (.getfield 18, 3) := by decide +kernel
theorem dX6_run_48 : decode cX6_run 48 = .ok (.iconst 1, 1) := by decide +kernel
theorem dX6_run_49 : decode cX6_run 49 = .ok (.isub, 1) := by decide +kernel
theorem dX6_run_50 : decode cX6_run 50 = .ok (.putfield 18, 3) := by decide +kernel
theorem dX6_run_53 : decode cX6_run 53 = .ok (.aload_n 0, 1) := by decide +kernel
theorem dX6_run_54 : decode cX6_run 54 = .ok (.getfield 9, 3) := by decide +kernel
theorem dX6_run_57 : decode cX6_run 57 = .ok (.aload_n 0, 1) := by decide +kernel
theorem dX6_run_58 : decode cX6_run 58 = .ok (.getfield 18, 3) := by decide +kernel
theorem dX6_run_61 : decode cX6_run 61 = .ok (.iaload, 1) := by decide +kernel
theorem dX6_run_62 : decode cX6_run 62 = .ok (.istore 6, 2) := by decide +kernel
theorem dX6_run_64 : decode cX6_run 64 = .ok (.iload 6, 2) := by decide +kernel
theorem dX6_run_66 : decode cX6_run 66 = .ok (.invokestatic 31, 3) := by decide +kernel
theorem dX6_run_69 : decode cX6_run 69 = .ok (.ifCond .eq 26, 3) := by decide +kernel
theorem dX6_run_72 : decode cX6_run 72 = .ok (.aload_n 3, 1) := by decide +kernel
theorem dX6_run_73 : decode cX6_run 73 = .ok (.iload 4, 2) := by decide +kernel
theorem dX6_run_75 : decode cX6_run 75 = .ok (.invokevirtual 35, 3) := by decide +kernel
theorem dX6_run_78 : decode cX6_run 78 = .ok (.iload 6, 2) := by decide +kernel
theorem dX6_run_80 : decode cX6_run 80 = .ok (.if_icmp .eq 9, 3) := by decide +kernel
theorem dX6_run_83 : decode cX6_run 83 = .ok (.bipush (-10), 2) := by decide +kernel
theorem dX6_run_85 : decode cX6_run 85 = .ok (.iload 4, 2) := by decide +kernel
theorem dX6_run_87 : decode cX6_run 87 = .ok (.isub, 1) := by decide +kernel
theorem dX6_run_88 : decode cX6_run 88 = .ok (.ireturn, 1) := by decide +kernel
theorem dX6_run_89 : decode cX6_run 89 = .ok (.iinc 4 1, 3) := by decide +kernel
theorem dX6_run_92 : decode cX6_run 92 = .ok (.goto 66, 3) := by decide +kernel
theorem dX6_run_95 : decode cX6_run 95 = .ok (.iload 6, 2) := by decide +kernel
theorem dX6_run_97 : decode cX6_run 97 = .ok (.bipush 10, 2) := by decide +kernel
theorem dX6_run_99 : decode cX6_run 99 = .ok (.isub, 1) := by decide +kernel
theorem dX6_run_100 : decode cX6_run 100 = .ok (.istore 7, 2) := by decide +kernel
theorem dX6_run_102 : decode cX6_run 102 = .ok (.aload_n 2, 1) := by decide +kernel
theorem dX6_run_103 : decode cX6_run 103 = .ok (.iload 7, 2) := by decide +kernel
theorem dX6_run_105 : decode cX6_run 105 = .ok (.invokevirtual 41, 3) := by decide +kernel
theorem dX6_run_108 : decode cX6_run 108 = .ok (.istore 8, 2) := by decide +kernel
theorem dX6_run_110 : decode cX6_run 110 = .ok (.aload_n 1, 1) := by decide +kernel
theorem dX6_run_111 : decode cX6_run 111 = .ok (.aload_n 2, 1) := by decide +kernel
theorem dX6_run_112 : decode cX6_run 112 = .ok (.iload 7, 2) := by decide +kernel
theorem dX6_run_114 : decode cX6_run 114 = .ok (.iload 8, 2) := by decide +kernel
theorem dX6_run_116 : decode cX6_run 116 = .ok (.aload_n 3, 1) := by decide +kernel
theorem dX6_run_117 : decode cX6_run 117 = .ok (.iload 4, 2) := by decide +kernel
theorem dX6_run_119 : decode cX6_run 119 = .ok (.iload 8, 2) := by decide +kernel
theorem dX6_run_121 : decode cX6_run 121 = .ok (.invokestatic 46, 3) := by decide +kernel
theorem dX6_run_124 : decode cX6_run 124 = .ok (.invokestatic 50, 3) := by decide +kernel
theorem dX6_run_127 : decode cX6_run 127 = .ok (.istore 9, 2) := by decide +kernel
theorem dX6_run_129 : decode cX6_run 129 = .ok (.iload 9, 2) := by decide +kernel
theorem dX6_run_131 : decode cX6_run 131 = .ok (.bipush (-9), 2) := by decide +kernel
theorem dX6_run_133 : decode cX6_run 133 = .ok (.if_icmp .eq 12, 3) := by decide +kernel
theorem dX6_run_136 : decode cX6_run 136 = .ok (.aload_n 0, 1) := by decide +kernel
theorem dX6_run_137 : decode cX6_run 137 = .ok (.getfield 22, 3) := by decide +kernel
theorem dX6_run_140 : decode cX6_run 140 = .ok (.bipush 60, 2) := by decide +kernel
theorem dX6_run_142 : decode cX6_run 142 = .ok (.if_icmp .lt 9, 3) := by decide +kernel
theorem dX6_run_145 : decode cX6_run 145 = .ok (.bipush (-10), 2) := by decide +kernel
theorem dX6_run_147 : decode cX6_run 147 = .ok (.iload 4, 2) := by decide +kernel
theorem dX6_run_149 : decode cX6_run 149 = .ok (.isub, 1) := by decide +kernel
theorem dX6_run_150 : decode cX6_run 150 = .ok (.ireturn, 1) := by decide +kernel
theorem dX6_run_151 : decode cX6_run 151 = .ok (.aload_n 0, 1) := by decide +kernel
theorem dX6_run_152 : decode cX6_run 152 = .ok (.aload_n 1, 1) := by decide +kernel
theorem dX6_run_153 : decode cX6_run 153 = .ok (.iload 9, 2) := by decide +kernel
theorem dX6_run_155 : decode cX6_run 155 = .ok (.invokevirtual 54, 3) := by decide +kernel
theorem dX6_run_158 : decode cX6_run 158 = .ok (.iinc 5 1, 3) := by decide +kernel
theorem dX6_run_161 : decode cX6_run 161 = .ok (.goto (-132), 3) := by decide +kernel
theorem dX6_run_164 : decode cX6_run 164 = .ok (.iload 4, 2) := by decide +kernel
theorem dX6_run_166 : decode cX6_run 166 = .ok (.aload_n 3, 1) := by decide +kernel
theorem dX6_run_167 : decode cX6_run 167 = .ok (.invokevirtual 58, 3) := by decide +kernel
theorem dX6_run_170 : decode cX6_run 170 = .ok (.if_icmp .ne 10, 3) := by decide +kernel
theorem dX6_run_173 : decode cX6_run 173 = .ok (.aload_n 0, 1) := by decide +kernel
theorem dX6_run_174 : decode cX6_run 174 = .ok (.getfield 22, 3) := by decide +kernel
theorem dX6_run_177 : decode cX6_run 177 = .ok (.goto 8, 3) := by decide +kernel
theorem dX6_run_180 : decode cX6_run 180 = .ok (.bipush (-10), 2) := by decide +kernel
theorem dX6_run_182 : decode cX6_run 182 = .ok (.iload 4, 2) := by decide +kernel
theorem dX6_run_184 : decode cX6_run 184 = .ok (.isub, 1) := by decide +kernel
theorem dX6_run_185 : decode cX6_run 185 = .ok (.ireturn, 1) := by decide +kernel
theorem dX6_beginning_0 : decode cX6_beginning 0 = .ok (.iconst 0, 1) := by decide +kernel
theorem dX6_beginning_1 : decode cX6_beginning 1 = .ok (.istore_n 3, 1) := by decide +kernel
theorem dX6_beginning_2 : decode cX6_beginning 2 = .ok (.iload_n 1, 1) := by decide +kernel
theorem dX6_beginning_3 : decode cX6_beginning 3 = .ok (.istore 4, 2) := by decide +kernel
theorem dX6_beginning_5 : decode cX6_beginning 5 = .ok (.iload 4, 2) := by decide +kernel
theorem dX6_beginning_7 : decode cX6_beginning 7 = .ok (.iload_n 1, 1) := by decide +kernel
theorem dX6_beginning_8 : decode cX6_beginning 8 = .ok (.iload_n 2, 1) := by decide +kernel
theorem dX6_beginning_9 : decode cX6_beginning 9 = .ok (.iadd, 1) := by decide +kernel
theorem dX6_beginning_10 : decode cX6_beginning 10 = .ok (.if_icmp .ge 32, 3) := by decide +kernel
theorem dX6_beginning_13 : decode cX6_beginning 13 = .ok (.iload 4, 2) := by decide +kernel
theorem dX6_beginning_15 : decode cX6_beginning 15 = .ok (.aload_n 0, 1) := by decide +kernel
theorem dX6_beginning_16 : decode cX6_beginning 16 = .ok (.invokevirtual 58, 3) := by decide +kernel
theorem dX6_beginning_19 : decode cX6_beginning 19 = .ok (.if_icmp .ge 23, 3) := by decide +kernel
theorem dX6_beginning_22 : decode cX6_beginning 22 = .ok (.bipush 6, 2) := by decide +kernel
theorem dX6_beginning_24 : decode cX6_beginning 24 = .ok (.iload_n 3, 1) := by decide +kernel
theorem dX6_beginning_25 : decode cX6_beginning 25 = .ok (.imul, 1) := by decide +kernel
theorem dX6_beginning_26 : decode cX6_beginning 26 = .ok (.aload_n 0, 1) := by decide +kernel
theorem dX6_beginning_27 : decode cX6_beginning 27 = .ok (.iload 4, 2) := by decide +kernel
theorem dX6_beginning_29 : decode cX6_beginning 29 = .ok (.invokevirtual 35, 3) := by decide +kernel
theorem dX6_beginning_32 : decode cX6_beginning 32 = .ok (.iadd, 1) := by decide +kernel
theorem dX6_beginning_33 : decode cX6_beginning 33 = .ok (.iconst 1, 1) := by decide +kernel
theorem dX6_beginning_34 : decode cX6_beginning 34 = .ok (.iadd, 1) := by decide +kernel
theorem dX6_beginning_35 : decode cX6_beginning 35 = .ok (.istore_n 3, 1) := by decide +kernel
theorem dX6_beginning_36 : decode cX6_beginning 36 = .ok (.iinc 4 1, 3) := by decide +kernel
theorem dX6_beginning_39 : decode cX6_beginning 39 = .ok (.goto (-34), 3) := by decide +kernel
theorem dX6_beginning_42 : decode cX6_beginning 42 = .ok (.iload_n 3, 1) := by decide +kernel
theorem dX6_beginning_43 : decode cX6_beginning 43 = .ok (.ireturn, 1) := by decide +kernel
theorem dX6_choose_0 : decode cX6_choose 0 = .ok (.aload_n 0, 1) := by decide +kernel
theorem dX6_choose_1 : decode cX6_choose 1 = .ok (.iload_n 2, 1) := by decide +kernel
theorem dX6_choose_2 : decode cX6_choose 2 = .ok (.invokevirtual 61, 3) := by decide +kernel
theorem dX6_choose_5 : decode cX6_choose 5 = .ok (.istore 5, 2) := by decide +kernel
theorem dX6_choose_7 : decode cX6_choose 7 = .ok (.iload 5, 2) := by decide +kernel
theorem dX6_choose_9 : decode cX6_choose 9 = .ok (.aload_n 0, 1) := by decide +kernel
theorem dX6_choose_10 : decode cX6_choose 10 = .ok (.iload_n 2, 1) := by decide +kernel
theorem dX6_choose_11 : decode cX6_choose 11 = .ok (.invokevirtual 64, 3) := by decide +kernel
theorem dX6_choose_14 : decode cX6_choose 14 = .ok (.if_icmp .ge 27, 3) := by decide +kernel
theorem dX6_choose_17 : decode cX6_choose 17 = .ok (.aload_n 1, 1) := by decide +kernel
theorem dX6_choose_18 : decode cX6_choose 18 = .ok (.iload 5, 2) := by decide +kernel
theorem dX6_choose_20 : decode cX6_choose 20 = .ok (.invokevirtual 67, 3) := by decide +kernel
theorem dX6_choose_23 : decode cX6_choose 23 = .ok (.iload 4, 2) := by decide +kernel
theorem dX6_choose_25 : decode cX6_choose 25 = .ok (.iload_n 3, 1) := by decide +kernel
theorem dX6_choose_26 : decode cX6_choose 26 = .ok (.invokevirtual 71, 3) := by decide +kernel
theorem dX6_choose_29 : decode cX6_choose 29 = .ok (.ifCond .eq 6, 3) := by decide +kernel
theorem dX6_choose_32 : decode cX6_choose 32 = .ok (.iload 5, 2) := by decide +kernel
theorem dX6_choose_34 : decode cX6_choose 34 = .ok (.ireturn, 1) := by decide +kernel
theorem dX6_choose_35 : decode cX6_choose 35 = .ok (.iinc 5 1, 3) := by decide +kernel
theorem dX6_choose_38 : decode cX6_choose 38 = .ok (.goto (-31), 3) := by decide +kernel
theorem dX6_choose_41 : decode cX6_choose 41 = .ok (.bipush (-9), 2) := by decide +kernel
theorem dX6_choose_43 : decode cX6_choose 43 = .ok (.ireturn, 1) := by decide +kernel
theorem dX6_take_0 : decode cX6_take 0 = .ok (.aload_n 0, 1) := by decide +kernel
theorem dX6_take_1 : decode cX6_take 1 = .ok (.getfield 15, 3) := by decide +kernel
theorem dX6_take_4 : decode cX6_take 4 = .ok (.aload_n 0, 1) := by decide +kernel
theorem dX6_take_5 : decode cX6_take 5 = .ok (.getfield 22, 3) := by decide +kernel
theorem dX6_take_8 : decode cX6_take 8 = .ok (.iload_n 2, 1) := by decide +kernel
theorem dX6_take_9 : decode cX6_take 9 = .ok (.iastore, 1) := by decide +kernel
theorem dX6_take_10 : decode cX6_take 10 = .ok (.aload_n 0, 1) := by decide +kernel
theorem dX6_take_11 : decode cX6_take 11 = .ok (.dup, 1) := by decide +kernel
theorem dX6_take_12 : decode cX6_take 12 = .ok (.getfield 22, 3) := by decide +kernel
theorem dX6_take_15 : decode cX6_take 15 = .ok (.iconst 1, 1) := by decide +kernel
theorem dX6_take_16 : decode cX6_take 16 = .ok (.iadd, 1) := by decide +kernel
theorem dX6_take_17 : decode cX6_take 17 = .ok (.putfield 22, 3) := by decide +kernel
theorem dX6_take_20 : decode cX6_take 20 = .ok (.aload_n 1, 1) := by decide +kernel
theorem dX6_take_21 : decode cX6_take 21 = .ok (.iload_n 2, 1) := by decide +kernel
theorem dX6_take_22 : decode cX6_take 22 = .ok (.invokevirtual 77, 3) := by decide +kernel
theorem dX6_take_25 : decode cX6_take 25 = .ok (.iconst 1, 1) := by decide +kernel
theorem dX6_take_26 : decode cX6_take 26 = .ok (.isub, 1) := by decide +kernel
theorem dX6_take_27 : decode cX6_take 27 = .ok (.istore_n 3, 1) := by decide +kernel
theorem dX6_take_28 : decode cX6_take 28 = .ok (.iload_n 3, 1) := by decide +kernel
theorem dX6_take_29 : decode cX6_take 29 = .ok (.ifCond .lt 46, 3) := by decide +kernel
theorem dX6_take_32 : decode cX6_take 32 = .ok (.aload_n 0, 1) := by decide +kernel
theorem dX6_take_33 : decode cX6_take 33 = .ok (.getfield 18, 3) := by decide +kernel
theorem dX6_take_36 : decode cX6_take 36 = .ok (.aload_n 0, 1) := by decide +kernel
theorem dX6_take_37 : decode cX6_take 37 = .ok (.getfield 9, 3) := by decide +kernel
theorem dX6_take_40 : decode cX6_take 40 = .ok (.arraylength, 1) := by decide +kernel
theorem dX6_take_41 : decode cX6_take 41 = .ok (.if_icmp .ge 34, 3) := by decide +kernel
theorem dX6_take_44 : decode cX6_take 44 = .ok (.aload_n 0, 1) := by decide +kernel
theorem dX6_take_45 : decode cX6_take 45 = .ok (.getfield 9, 3) := by decide +kernel
theorem dX6_take_48 : decode cX6_take 48 = .ok (.aload_n 0, 1) := by decide +kernel
theorem dX6_take_49 : decode cX6_take 49 = .ok (.getfield 18, 3) := by decide +kernel
theorem dX6_take_52 : decode cX6_take 52 = .ok (.aload_n 1, 1) := by decide +kernel
theorem dX6_take_53 : decode cX6_take 53 = .ok (.iload_n 2, 1) := by decide +kernel
theorem dX6_take_54 : decode cX6_take 54 = .ok (.iload_n 3, 1) := by decide +kernel
theorem dX6_take_55 : decode cX6_take 55 = .ok (.invokevirtual 80, 3) := by decide +kernel
theorem dX6_take_58 : decode cX6_take 58 = .ok (.iastore, 1) := by decide +kernel
theorem dX6_take_59 : decode cX6_take 59 = .ok (.aload_n 0, 1) := by decide +kernel
theorem dX6_take_60 : decode cX6_take 60 = .ok (.dup, 1) := by decide +kernel
theorem dX6_take_61 : decode cX6_take 61 = .ok (.getfield 18, 3) := by decide +kernel
theorem dX6_take_64 : decode cX6_take 64 = .ok (.iconst 1, 1) := by decide +kernel
theorem dX6_take_65 : decode cX6_take 65 = .ok (.iadd, 1) := by decide +kernel
theorem dX6_take_66 : decode cX6_take 66 = .ok (.putfield 18, 3) := by decide +kernel
theorem dX6_take_69 : decode cX6_take 69 = .ok (.iinc 3 (-1), 3) := by decide +kernel
theorem dX6_take_72 : decode cX6_take 72 = .ok (.goto (-44), 3) := by decide +kernel
theorem dX6_take_75 : decode cX6_take 75 = .ok (.return_, 1) := by decide +kernel
theorem dX7_init_0 : decode cX7_init 0 = .ok (.aload_n 0, 1) := by decide +kernel
theorem dX7_init_1 : decode cX7_init 1 = .ok (.invokespecial 3, 3) := by decide +kernel
theorem dX7_init_4 : decode cX7_init 4 = .ok (.aload_n 0, 1) := by decide +kernel
theorem dX7_init_5 : decode cX7_init 5 = .ok (.bipush 6, 2) := by decide +kernel
theorem dX7_init_7 : decode cX7_init 7 = .ok (.newarray .int, 2) := by decide +kernel
theorem dX7_init_9 : decode cX7_init 9 = .ok (.putfield 9, 3) := by decide +kernel
theorem dX7_init_12 : decode cX7_init 12 = .ok (.aload_n 0, 1) := by decide +kernel
theorem dX7_init_13 : decode cX7_init 13 = .ok (.new 15, 3) := by decide +kernel
theorem dX7_init_16 : decode cX7_init 16 = .ok (.dup, 1) := by decide +kernel
theorem dX7_init_17 : decode cX7_init 17 = .ok (.invokespecial 17, 3) := by decide +kernel
theorem dX7_init_20 : decode cX7_init 20 = .ok (.putfield 18, 3) := by decide +kernel
theorem dX7_init_23 : decode cX7_init 23 = .ok (.aload_n 0, 1) := by decide +kernel
theorem dX7_init_24 : decode cX7_init 24 = .ok (.bipush (-9), 2) := by decide +kernel
theorem dX7_init_26 : decode cX7_init 26 = .ok (.putfield 22, 3) := by decide +kernel
theorem dX7_init_29 : decode cX7_init 29 = .ok (.aload_n 0, 1) := by decide +kernel
theorem dX7_init_30 : decode cX7_init 30 = .ok (.iconst 0, 1) := by decide +kernel
theorem dX7_init_31 : decode cX7_init 31 = .ok (.putfield 26, 3) := by decide +kernel
theorem dX7_init_34 : decode cX7_init 34 = .ok (.aload_n 0, 1) := by decide +kernel
theorem dX7_init_35 : decode cX7_init 35 = .ok (.iconst 0, 1) := by decide +kernel
theorem dX7_init_36 : decode cX7_init 36 = .ok (.putfield 29, 3) := by decide +kernel
theorem dX7_init_39 : decode cX7_init 39 = .ok (.aload_n 0, 1) := by decide +kernel
theorem dX7_init_40 : decode cX7_init 40 = .ok (.iconst 0, 1) := by decide +kernel
theorem dX7_init_41 : decode cX7_init 41 = .ok (.putfield 32, 3) := by decide +kernel
theorem dX7_init_44 : decode cX7_init 44 = .ok (.return_, 1) := by decide +kernel
theorem dX7_kind_0 : decode cX7_kind 0 = .ok (.aload_n 0, 1) := by decide +kernel
theorem dX7_kind_1 : decode cX7_kind 1 = .ok (.getfield 22, 3) := by decide +kernel
theorem dX7_kind_4 : decode cX7_kind 4 = .ok (.ireturn, 1) := by decide +kernel
theorem dX7_position_0 : decode cX7_position 0 = .ok (.aload_n 0, 1) := by decide +kernel
theorem dX7_position_1 : decode cX7_position 1 = .ok (.getfield 26, 3) := by decide +kernel
theorem dX7_position_4 : decode cX7_position 4 = .ok (.ireturn, 1) := by decide +kernel
theorem dX7_exchange_0 : decode cX7_exchange 0 = .ok (.aload_n 0, 1) := by decide +kernel
theorem dX7_exchange_1 : decode cX7_exchange 1 = .ok (.getfield 18, 3) := by decide +kernel
theorem dX7_exchange_4 : decode cX7_exchange 4 = .ok (.astore_n 2, 1) := by decide +kernel
theorem dX7_exchange_5 : decode cX7_exchange 5 = .ok (.aload_n 0, 1) := by decide +kernel
theorem dX7_exchange_6 : decode cX7_exchange 6 = .ok (.aload_n 1, 1) := by decide +kernel
theorem dX7_exchange_7 : decode cX7_exchange 7 = .ok (.putfield 18, 3) := by decide +kernel
theorem dX7_exchange_10 : decode cX7_exchange 10 = .ok (.aload_n 2, 1) := by decide +kernel
theorem dX7_exchange_11 : decode cX7_exchange 11 = .ok (.areturn, 1) := by decide +kernel
theorem dX7_read_0 : decode cX7_read 0 = .ok (.aload_n 0, 1) := by decide +kernel
theorem dX7_read_1 : decode cX7_read 1 = .ok (.getfield 18, 3) := by decide +kernel
theorem dX7_read_4 : decode cX7_read 4 = .ok (.invokevirtual 35, 3) := by decide +kernel
theorem dX7_read_7 : decode cX7_read 7 = .ok (.aload_n 0, 1) := by decide +kernel
theorem dX7_read_8 : decode cX7_read 8 = .ok (.bipush (-9), 2) := by decide +kernel
theorem dX7_read_10 : decode cX7_read 10 = .ok (.putfield 22, 3) := by decide +kernel
theorem dX7_read_13 : decode cX7_read 13 = .ok (.aload_n 0, 1) := by decide +kernel
theorem dX7_read_14 : decode cX7_read 14 = .ok (.iconst 0, 1) := by decide +kernel
theorem dX7_read_15 : decode cX7_read 15 = .ok (.putfield 29, 3) := by decide +kernel
theorem dX7_read_18 : decode cX7_read 18 = .ok (.aload_n 0, 1) := by decide +kernel
theorem dX7_read_19 : decode cX7_read 19 = .ok (.getfield 9, 3) := by decide +kernel
theorem dX7_read_22 : decode cX7_read 22 = .ok (.sipush 1000, 3) := by decide +kernel
theorem dX7_read_25 : decode cX7_read 25 = .ok (.invokestatic 38, 3) := by decide +kernel
theorem dX7_read_28 : decode cX7_read 28 = .ok (.iconst 0, 1) := by decide +kernel
theorem dX7_read_29 : decode cX7_read 29 = .ok (.istore_n 2, 1) := by decide +kernel
theorem dX7_read_30 : decode cX7_read 30 = .ok (.iload_n 2, 1) := by decide +kernel
theorem dX7_read_31 : decode cX7_read 31 = .ok (.aload_n 1, 1) := by decide +kernel
theorem dX7_read_32 : decode cX7_read 32 = .ok (.invokevirtual 44, 3) := by decide +kernel
theorem dX7_read_35 : decode cX7_read 35 = .ok (.if_icmp .ge 28, 3) := by decide +kernel
theorem dX7_read_38 : decode cX7_read 38 = .ok (.aload_n 0, 1) := by decide +kernel
theorem dX7_read_39 : decode cX7_read 39 = .ok (.getfield 22, 3) := by decide +kernel
theorem dX7_read_42 : decode cX7_read 42 = .ok (.bipush (-9), 2) := by decide +kernel
theorem dX7_read_44 : decode cX7_read 44 = .ok (.if_icmp .ne 19, 3) := by decide +kernel
theorem dX7_read_47 : decode cX7_read 47 = .ok (.aload_n 0, 1) := by decide +kernel
theorem dX7_read_48 : decode cX7_read 48 = .ok (.aload_n 1, 1) := by decide +kernel
theorem dX7_read_49 : decode cX7_read 49 = .ok (.iload_n 2, 1) := by decide +kernel
theorem dX7_read_50 : decode cX7_read 50 = .ok (.invokevirtual 50, 3) := by decide +kernel
theorem dX7_read_53 : decode cX7_read 53 = .ok (.iload_n 2, 1) := by decide +kernel
theorem dX7_read_54 : decode cX7_read 54 = .ok (.invokevirtual 54, 3) := by decide +kernel
theorem dX7_read_57 : decode cX7_read 57 = .ok (.iinc 2 1, 3) := by decide +kernel
theorem dX7_read_60 : decode cX7_read 60 = .ok (.goto (-30), 3) := by decide +kernel
theorem dX7_read_63 : decode cX7_read 63 = .ok (.aload_n 0, 1) := by decide +kernel
theorem dX7_read_64 : decode cX7_read 64 = .ok (.getfield 22, 3) := by decide +kernel
theorem dX7_read_67 : decode cX7_read 67 = .ok (.bipush (-9), 2) := by decide +kernel
theorem dX7_read_69 : decode cX7_read 69 = .ok (.if_icmp .ne 29, 3) := by decide +kernel
theorem dX7_read_72 : decode cX7_read 72 = .ok (.aload_n 0, 1) := by decide +kernel
theorem dX7_read_73 : decode cX7_read 73 = .ok (.getfield 29, 3) := by decide +kernel
theorem dX7_read_76 : decode cX7_read 76 = .ok (.ifCond .ne 13, 3) := by decide +kernel
theorem dX7_read_79 : decode cX7_read 79 = .ok (.aload_n 0, 1) := by decide +kernel
theorem dX7_read_80 : decode cX7_read 80 = .ok (.getfield 18, 3) := by decide +kernel
theorem dX7_read_83 : decode cX7_read 83 = .ok (.invokevirtual 58, 3) := by decide +kernel
theorem dX7_read_86 : decode cX7_read 86 = .ok (.ifCond .ne 12, 3) := by decide +kernel
theorem dX7_read_89 : decode cX7_read 89 = .ok (.aload_n 0, 1) := by decide +kernel
theorem dX7_read_90 : decode cX7_read 90 = .ok (.iconst 1, 1) := by decide +kernel
theorem dX7_read_91 : decode cX7_read 91 = .ok (.aload_n 1, 1) := by decide +kernel
theorem dX7_read_92 : decode cX7_read 92 = .ok (.invokevirtual 44, 3) := by decide +kernel
theorem dX7_read_95 : decode cX7_read 95 = .ok (.invokevirtual 61, 3) := by decide +kernel
theorem dX7_read_98 : decode cX7_read 98 = .ok (.aload_n 0, 1) := by decide +kernel
theorem dX7_read_99 : decode cX7_read 99 = .ok (.getfield 22, 3) := by decide +kernel
theorem dX7_read_102 : decode cX7_read 102 = .ok (.bipush (-9), 2) := by decide +kernel
theorem dX7_read_104 : decode cX7_read 104 = .ok (.if_icmp .ne 7, 3) := by decide +kernel
theorem dX7_read_107 : decode cX7_read 107 = .ok (.aload_n 0, 1) := by decide +kernel
theorem dX7_read_108 : decode cX7_read 108 = .ok (.invokevirtual 64, 3) := by decide +kernel
theorem dX7_read_111 : decode cX7_read 111 = .ok (.return_, 1) := by decide +kernel
theorem dX7_blame_0 : decode cX7_blame 0 = .ok (.aload_n 0, 1) := by decide +kernel
theorem dX7_blame_1 : decode cX7_blame 1 = .ok (.iload_n 1, 1) := by decide +kernel
theorem dX7_blame_2 : decode cX7_blame 2 = .ok (.putfield 22, 3) := by decide +kernel
theorem dX7_blame_5 : decode cX7_blame 5 = .ok (.aload_n 0, 1) := by decide +kernel
theorem dX7_blame_6 : decode cX7_blame 6 = .ok (.iload_n 2, 1) := by decide +kernel
theorem dX7_blame_7 : decode cX7_blame 7 = .ok (.putfield 26, 3) := by decide +kernel
theorem dX7_blame_10 : decode cX7_blame 10 = .ok (.return_, 1) := by decide +kernel
theorem dX7_readByte_0 : decode cX7_readByte 0 = .ok (.aload_n 0, 1) := by decide +kernel
theorem dX7_readByte_1 : decode cX7_readByte 1 = .ok (.getfield 29, 3) := by decide +kernel
theorem dX7_readByte_4 : decode cX7_readByte 4 = .ok (.ifCond .ne 12, 3) := by decide +kernel
theorem dX7_readByte_7 : decode cX7_readByte 7 = .ok (.aload_n 0, 1) := by decide +kernel
theorem dX7_readByte_8 : decode cX7_readByte 8 = .ok (.iload_n 1, 1) := by decide +kernel
theorem dX7_readByte_9 : decode cX7_readByte 9 = .ok (.iload_n 2, 1) := by decide +kernel
theorem dX7_readByte_10 : decode cX7_readByte 10 = .ok (.invokevirtual 67, 3) := by decide +kernel
theorem dX7_readByte_13 : decode cX7_readByte 13 = .ok (.goto 40, 3) := by decide +kernel
theorem dX7_readByte_16 : decode cX7_readByte 16 = .ok (.aload_n 0, 1) := by decide +kernel
theorem dX7_readByte_17 : decode cX7_readByte 17 = .ok (.getfield 29, 3) := by decide +kernel
theorem dX7_readByte_20 : decode cX7_readByte 20 = .ok (.iconst 2, 1) := by decide +kernel
theorem dX7_readByte_21 : decode cX7_readByte 21 = .ok (.if_icmp .ne 12, 3) := by decide +kernel
theorem dX7_readByte_24 : decode cX7_readByte 24 = .ok (.aload_n 0, 1) := by decide +kernel
theorem dX7_readByte_25 : decode cX7_readByte 25 = .ok (.iload_n 1, 1) := by decide +kernel
theorem dX7_readByte_26 : decode cX7_readByte 26 = .ok (.iload_n 2, 1) := by decide +kernel
theorem dX7_readByte_27 : decode cX7_readByte 27 = .ok (.invokevirtual 70, 3) := by decide +kernel
theorem dX7_readByte_30 : decode cX7_readByte 30 = .ok (.goto 23, 3) := by decide +kernel
theorem dX7_readByte_33 : decode cX7_readByte 33 = .ok (.iload_n 1, 1) := by decide +kernel
theorem dX7_readByte_34 : decode cX7_readByte 34 = .ok (.bipush 61, 2) := by decide +kernel
theorem dX7_readByte_36 : decode cX7_readByte 36 = .ok (.if_icmp .ne 11, 3) := by decide +kernel
theorem dX7_readByte_39 : decode cX7_readByte 39 = .ok (.aload_n 0, 1) := by decide +kernel
theorem dX7_readByte_40 : decode cX7_readByte 40 = .ok (.iload_n 2, 1) := by decide +kernel
theorem dX7_readByte_41 : decode cX7_readByte 41 = .ok (.invokevirtual 73, 3) := by decide +kernel
theorem dX7_readByte_44 : decode cX7_readByte 44 = .ok (.goto 9, 3) := by decide +kernel
theorem dX7_readByte_47 : decode cX7_readByte 47 = .ok (.aload_n 0, 1) := by decide +kernel
theorem dX7_readByte_48 : decode cX7_readByte 48 = .ok (.iconst 1, 1) := by decide +kernel
theorem dX7_readByte_49 : decode cX7_readByte 49 = .ok (.iload_n 2, 1) := by decide +kernel
theorem dX7_readByte_50 : decode cX7_readByte 50 = .ok (.invokevirtual 61, 3) := by decide +kernel
theorem dX7_readByte_53 : decode cX7_readByte 53 = .ok (.return_, 1) := by decide +kernel
theorem dX7_readLeft_0 : decode cX7_readLeft 0 = .ok (.iload_n 1, 1) := by decide +kernel
theorem dX7_readLeft_1 : decode cX7_readLeft 1 = .ok (.invokestatic 77, 3) := by decide +kernel
theorem dX7_readLeft_4 : decode cX7_readLeft 4 = .ok (.ifCond .ne 12, 3) := by decide +kernel
theorem dX7_readLeft_7 : decode cX7_readLeft 7 = .ok (.aload_n 0, 1) := by decide +kernel
theorem dX7_readLeft_8 : decode cX7_readLeft 8 = .ok (.iconst 1, 1) := by decide +kernel
theorem dX7_readLeft_9 : decode cX7_readLeft 9 = .ok (.iload_n 2, 1) := by decide +kernel
theorem dX7_readLeft_10 : decode cX7_readLeft 10 = .ok (.invokevirtual 61, 3) := by decide +kernel
theorem dX7_readLeft_13 : decode cX7_readLeft 13 = .ok (.goto 43, 3) := by decide +kernel
theorem dX7_readLeft_16 : decode cX7_readLeft 16 = .ok (.aload_n 0, 1) := by decide +kernel
theorem dX7_readLeft_17 : decode cX7_readLeft 17 = .ok (.getfield 18, 3) := by decide +kernel
theorem dX7_readLeft_20 : decode cX7_readLeft 20 = .ok (.invokevirtual 81, 3) := by decide +kernel
theorem dX7_readLeft_23 : decode cX7_readLeft 23 = .ok (.iload_n 1, 1) := by decide +kernel
theorem dX7_readLeft_24 : decode cX7_readLeft 24 = .ok (.bipush 65, 2) := by decide +kernel
theorem dX7_readLeft_26 : decode cX7_readLeft 26 = .ok (.isub, 1) := by decide +kernel
theorem dX7_readLeft_27 : decode cX7_readLeft 27 = .ok (.invokestatic 84, 3) := by decide +kernel
theorem dX7_readLeft_30 : decode cX7_readLeft 30 = .ok (.iconst 1, 1) := by decide +kernel
theorem dX7_readLeft_31 : decode cX7_readLeft 31 = .ok (.if_icmp .ne 12, 3) := by decide +kernel
theorem dX7_readLeft_34 : decode cX7_readLeft 34 = .ok (.aload_n 0, 1) := by decide +kernel
theorem dX7_readLeft_35 : decode cX7_readLeft 35 = .ok (.iconst 2, 1) := by decide +kernel
theorem dX7_readLeft_36 : decode cX7_readLeft 36 = .ok (.iload_n 2, 1) := by decide +kernel
theorem dX7_readLeft_37 : decode cX7_readLeft 37 = .ok (.invokevirtual 61, 3) := by decide +kernel
theorem dX7_readLeft_40 : decode cX7_readLeft 40 = .ok (.goto 16, 3) := by decide +kernel
theorem dX7_readLeft_43 : decode cX7_readLeft 43 = .ok (.aload_n 0, 1) := by decide +kernel
theorem dX7_readLeft_44 : decode cX7_readLeft 44 = .ok (.iload_n 1, 1) := by decide +kernel
theorem dX7_readLeft_45 : decode cX7_readLeft 45 = .ok (.bipush 65, 2) := by decide +kernel
theorem dX7_readLeft_47 : decode cX7_readLeft 47 = .ok (.isub, 1) := by decide +kernel
theorem dX7_readLeft_48 : decode cX7_readLeft 48 = .ok (.putfield 32, 3) := by decide +kernel
theorem dX7_readLeft_51 : decode cX7_readLeft 51 = .ok (.aload_n 0, 1) := by decide +kernel
theorem dX7_readLeft_52 : decode cX7_readLeft 52 = .ok (.iconst 1, 1) := by decide +kernel
theorem dX7_readLeft_53 : decode cX7_readLeft 53 = .ok (.putfield 29, 3) := by decide +kernel
theorem dX7_readLeft_56 : decode cX7_readLeft 56 = .ok (.return_, 1) := by decide +kernel
theorem dX7_readRight_0 : decode cX7_readRight 0 = .ok (.iload_n 1, 1) := by decide +kernel
theorem dX7_readRight_1 : decode cX7_readRight 1 = .ok (.bipush 124, 2) := by decide +kernel
theorem dX7_readRight_3 : decode cX7_readRight 3 = .ok (.if_icmp .ne 11, 3) := by decide +kernel
theorem dX7_readRight_6 : decode cX7_readRight 6 = .ok (.aload_n 0, 1) := by decide +kernel
theorem dX7_readRight_7 : decode cX7_readRight 7 = .ok (.iload_n 2, 1) := by decide +kernel
theorem dX7_readRight_8 : decode cX7_readRight 8 = .ok (.invokevirtual 73, 3) := by decide +kernel
theorem dX7_readRight_11 : decode cX7_readRight 11 = .ok (.goto 91, 3) := by decide +kernel
theorem dX7_readRight_14 : decode cX7_readRight 14 = .ok (.iload_n 1, 1) := by decide +kernel
theorem dX7_readRight_15 : decode cX7_readRight 15 = .ok (.bipush 59, 2) := by decide +kernel
theorem dX7_readRight_17 : decode cX7_readRight 17 = .ok (.if_icmp .ne 11, 3) := by decide +kernel
theorem dX7_readRight_20 : decode cX7_readRight 20 = .ok (.aload_n 0, 1) := by decide +kernel
theorem dX7_readRight_21 : decode cX7_readRight 21 = .ok (.iconst 0, 1) := by decide +kernel
theorem dX7_readRight_22 : decode cX7_readRight 22 = .ok (.putfield 29, 3) := by decide +kernel
theorem dX7_readRight_25 : decode cX7_readRight 25 = .ok (.goto 77, 3) := by decide +kernel
theorem dX7_readRight_28 : decode cX7_readRight 28 = .ok (.iload_n 1, 1) := by decide +kernel
theorem dX7_readRight_29 : decode cX7_readRight 29 = .ok (.invokestatic 77, 3) := by decide +kernel
theorem dX7_readRight_32 : decode cX7_readRight 32 = .ok (.ifCond .eq 40, 3) := by decide +kernel
theorem dX7_readRight_35 : decode cX7_readRight 35 = .ok (.aload_n 0, 1) := by decide +kernel
theorem dX7_readRight_36 : decode cX7_readRight 36 = .ok (.getfield 9, 3) := by decide +kernel
theorem dX7_readRight_39 : decode cX7_readRight 39 = .ok (.iload_n 1, 1) := by decide +kernel
theorem dX7_readRight_40 : decode cX7_readRight 40 = .ok (.bipush 65, 2) := by decide +kernel
theorem dX7_readRight_42 : decode cX7_readRight 42 = .ok (.isub, 1) := by decide +kernel
theorem dX7_readRight_43 : decode cX7_readRight 43 = .ok (.aload_n 0, 1) := by decide +kernel
theorem dX7_readRight_44 : decode cX7_readRight 44 = .ok (.getfield 9, 3) := by decide +kernel
theorem dX7_readRight_47 : decode cX7_readRight 47 = .ok (.iload_n 1, 1) := by decide +kernel
theorem dX7_readRight_48 : decode cX7_readRight 48 = .ok (.bipush 65, 2) := by decide +kernel
theorem dX7_readRight_50 : decode cX7_readRight 50 = .ok (.isub, 1) := by decide +kernel
theorem dX7_readRight_51 : decode cX7_readRight 51 = .ok (.iaload, 1) := by decide +kernel
theorem dX7_readRight_52 : decode cX7_readRight 52 = .ok (.iload_n 2, 1) := by decide +kernel
theorem dX7_readRight_53 : decode cX7_readRight 53 = .ok (.invokestatic 88, 3) := by decide +kernel
theorem dX7_readRight_56 : decode cX7_readRight 56 = .ok (.iastore, 1) := by decide +kernel
theorem dX7_readRight_57 : decode cX7_readRight 57 = .ok (.aload_n 0, 1) := by decide +kernel
theorem dX7_readRight_58 : decode cX7_readRight 58 = .ok (.bipush 10, 2) := by decide +kernel
theorem dX7_readRight_60 : decode cX7_readRight 60 = .ok (.iload_n 1, 1) := by decide +kernel
theorem dX7_readRight_61 : decode cX7_readRight 61 = .ok (.iadd, 1) := by decide +kernel
theorem dX7_readRight_62 : decode cX7_readRight 62 = .ok (.bipush 65, 2) := by decide +kernel
theorem dX7_readRight_64 : decode cX7_readRight 64 = .ok (.isub, 1) := by decide +kernel
theorem dX7_readRight_65 : decode cX7_readRight 65 = .ok (.iload_n 2, 1) := by decide +kernel
theorem dX7_readRight_66 : decode cX7_readRight 66 = .ok (.invokevirtual 93, 3) := by decide +kernel
theorem dX7_readRight_69 : decode cX7_readRight 69 = .ok (.goto 33, 3) := by decide +kernel
theorem dX7_readRight_72 : decode cX7_readRight 72 = .ok (.iload_n 1, 1) := by decide +kernel
theorem dX7_readRight_73 : decode cX7_readRight 73 = .ok (.bipush 97, 2) := by decide +kernel
theorem dX7_readRight_75 : decode cX7_readRight 75 = .ok (.if_icmp .lt 21, 3) := by decide +kernel
theorem dX7_readRight_78 : decode cX7_readRight 78 = .ok (.iload_n 1, 1) := by decide +kernel
theorem dX7_readRight_79 : decode cX7_readRight 79 = .ok (.bipush 102, 2) := by decide +kernel
theorem dX7_readRight_81 : decode cX7_readRight 81 = .ok (.if_icmp .ge 15, 3) := by decide +kernel
theorem dX7_readRight_84 : decode cX7_readRight 84 = .ok (.aload_n 0, 1) := by decide +kernel
theorem dX7_readRight_85 : decode cX7_readRight 85 = .ok (.iload_n 1, 1) := by decide +kernel
theorem dX7_readRight_86 : decode cX7_readRight 86 = .ok (.bipush 97, 2) := by decide +kernel
theorem dX7_readRight_88 : decode cX7_readRight 88 = .ok (.isub, 1) := by decide +kernel
theorem dX7_readRight_89 : decode cX7_readRight 89 = .ok (.iload_n 2, 1) := by decide +kernel
theorem dX7_readRight_90 : decode cX7_readRight 90 = .ok (.invokevirtual 93, 3) := by decide +kernel
theorem dX7_readRight_93 : decode cX7_readRight 93 = .ok (.goto 9, 3) := by decide +kernel
theorem dX7_readRight_96 : decode cX7_readRight 96 = .ok (.aload_n 0, 1) := by decide +kernel
theorem dX7_readRight_97 : decode cX7_readRight 97 = .ok (.iconst 1, 1) := by decide +kernel
theorem dX7_readRight_98 : decode cX7_readRight 98 = .ok (.iload_n 2, 1) := by decide +kernel
theorem dX7_readRight_99 : decode cX7_readRight 99 = .ok (.invokevirtual 61, 3) := by decide +kernel
theorem dX7_readRight_102 : decode cX7_readRight 102 = .ok (.return_, 1) := by decide +kernel
theorem dX7_readSymbol_0 : decode cX7_readSymbol 0 = .ok (.aload_n 0, 1) := by decide +kernel
theorem dX7_readSymbol_1 : decode cX7_readSymbol 1 = .ok (.getfield 18, 3) := by decide +kernel
theorem dX7_readSymbol_4 : decode cX7_readSymbol 4 = .ok (.iload_n 1, 1) := by decide +kernel
theorem dX7_readSymbol_5 : decode cX7_readSymbol 5 = .ok (.invokevirtual 96, 3) := by decide +kernel
theorem dX7_readSymbol_8 : decode cX7_readSymbol 8 = .ok (.ifCond .ne 9, 3) := by decide +kernel
theorem dX7_readSymbol_11 : decode cX7_readSymbol 11 = .ok (.aload_n 0, 1) := by decide +kernel
theorem dX7_readSymbol_12 : decode cX7_readSymbol 12 = .ok (.iconst 4, 1) := by decide +kernel
theorem dX7_readSymbol_13 : decode cX7_readSymbol 13 = .ok (.iload_n 2, 1) := by decide +kernel
theorem dX7_readSymbol_14 : decode cX7_readSymbol 14 = .ok (.invokevirtual 61, 3) := by decide +kernel
theorem dX7_readSymbol_17 : decode cX7_readSymbol 17 = .ok (.return_, 1) := by decide +kernel
theorem dX7_openAlternative_0 : decode cX7_openAlternative 0 = .ok (.aload_n 0, 1) := by decide +kernel
theorem dX7_openAlternative_1 : decode cX7_openAlternative 1 = .ok (.iconst 2, 1) := by decide +kernel
theorem dX7_openAlternative_2 : decode cX7_openAlternative 2 = .ok (.putfield 29, 3) := by decide +kernel
theorem dX7_openAlternative_5 : decode cX7_openAlternative 5 = .ok (.aload_n 0, 1) := by decide +kernel
theorem dX7_openAlternative_6 : decode cX7_openAlternative 6 = .ok (.getfield 18, 3) := by decide +kernel
theorem dX7_openAlternative_9 : decode cX7_openAlternative 9 = .ok (.aload_n 0, 1) := by decide +kernel
theorem dX7_openAlternative_10 : decode cX7_openAlternative 10 = .ok (.getfield 32, 3) := by decide +kernel
theorem dX7_openAlternative_13 : decode cX7_openAlternative 13 = .ok (.invokevirtual 99, 3) := by decide +kernel
theorem dX7_openAlternative_16 : decode cX7_openAlternative 16 = .ok (.ifCond .ne 11, 3) := by decide +kernel
theorem dX7_openAlternative_19 : decode cX7_openAlternative 19 = .ok (.aload_n 0, 1) := by decide +kernel
theorem dX7_openAlternative_20 : decode cX7_openAlternative 20 = .ok (.iconst 3, 1) := by decide +kernel
theorem dX7_openAlternative_21 : decode cX7_openAlternative 21 = .ok (.iload_n 1, 1) := by decide +kernel
theorem dX7_openAlternative_22 : decode cX7_openAlternative 22 = .ok (.iconst 1, 1) := by decide +kernel
theorem dX7_openAlternative_23 : decode cX7_openAlternative 23 = .ok (.iadd, 1) := by decide +kernel
theorem dX7_openAlternative_24 : decode cX7_openAlternative 24 = .ok (.invokevirtual 61, 3) := by decide +kernel
theorem dX7_openAlternative_27 : decode cX7_openAlternative 27 = .ok (.return_, 1) := by decide +kernel
theorem dX7_blameUndefined_0 : decode cX7_blameUndefined 0 = .ok (.sipush 1000, 3) := by decide +kernel
theorem dX7_blameUndefined_3 : decode cX7_blameUndefined 3 = .ok (.istore_n 1, 1) := by decide +kernel
theorem dX7_blameUndefined_4 : decode cX7_blameUndefined 4 = .ok (.iconst 0, 1) := by decide +kernel
theorem dX7_blameUndefined_5 : decode cX7_blameUndefined 5 = .ok (.istore_n 2, 1) := by decide +kernel
theorem dX7_blameUndefined_6 : decode cX7_blameUndefined 6 = .ok (.iload_n 2, 1) := by decide +kernel
theorem dX7_blameUndefined_7 : decode cX7_blameUndefined 7 = .ok (.bipush 6, 2) := by decide +kernel
theorem dX7_blameUndefined_9 : decode cX7_blameUndefined 9 = .ok (.if_icmp .ge 34, 3) := by decide +kernel
theorem dX7_blameUndefined_12 : decode cX7_blameUndefined 12 = .ok (.aload_n 0, 1) := by decide +kernel
theorem dX7_blameUndefined_13 : decode cX7_blameUndefined 13 = .ok (.getfield 18, 3) := by decide +kernel
theorem dX7_blameUndefined_16 : decode cX7_blameUndefined 16 = .ok (.invokevirtual 81, 3) := by decide +kernel
theorem dX7_blameUndefined_19 : decode cX7_blameUndefined 19 = .ok (.iload_n 2, 1) := by decide +kernel
theorem dX7_blameUndefined_20 : decode cX7_blameUndefined 20 = .ok (.invokestatic 84, 3) := by decide +kernel
theorem dX7_blameUndefined_23 : decode cX7_blameUndefined 23 = .ok (.ifCond .ne 14, 3) := by decide +kernel
theorem dX7_blameUndefined_26 : decode cX7_blameUndefined 26 = .ok (.iload_n 1, 1) := by decide +kernel
theorem dX7_blameUndefined_27 : decode cX7_blameUndefined 27 = .ok (.aload_n 0, 1) := by decide +kernel
theorem dX7_blameUndefined_28 : decode cX7_blameUndefined 28 = .ok (.getfield 9, 3) := by decide +kernel
theorem dX7_blameUndefined_31 : decode cX7_blameUndefined 31 = .ok (.iload_n 2, 1) := by decide +kernel
theorem dX7_blameUndefined_32 : decode cX7_blameUndefined 32 = .ok (.iaload, 1) := by decide +kernel
theorem dX7_blameUndefined_33 : decode cX7_blameUndefined 33 = .ok (.invokestatic 88, 3) := by decide +kernel
theorem dX7_blameUndefined_36 : decode cX7_blameUndefined 36 = .ok (.istore_n 1, 1) := by decide +kernel
theorem dX7_blameUndefined_37 : decode cX7_blameUndefined 37 = .ok (.iinc 2 1, 3) := by decide +kernel
theorem dX7_blameUndefined_40 : decode cX7_blameUndefined 40 = .ok (.goto (-34), 3) := by decide +kernel
theorem dX7_blameUndefined_43 : decode cX7_blameUndefined 43 = .ok (.iload_n 1, 1) := by decide +kernel
theorem dX7_blameUndefined_44 : decode cX7_blameUndefined 44 = .ok (.sipush 1000, 3) := by decide +kernel
theorem dX7_blameUndefined_47 : decode cX7_blameUndefined 47 = .ok (.if_icmp .eq 9, 3) := by decide +kernel
theorem dX7_blameUndefined_50 : decode cX7_blameUndefined 50 = .ok (.aload_n 0, 1) := by decide +kernel
theorem dX7_blameUndefined_51 : decode cX7_blameUndefined 51 = .ok (.iconst 5, 1) := by decide +kernel
theorem dX7_blameUndefined_52 : decode cX7_blameUndefined 52 = .ok (.iload_n 1, 1) := by decide +kernel
theorem dX7_blameUndefined_53 : decode cX7_blameUndefined 53 = .ok (.invokevirtual 61, 3) := by decide +kernel
theorem dX7_blameUndefined_56 : decode cX7_blameUndefined 56 = .ok (.return_, 1) := by decide +kernel
theorem dX7_isNonterminal_0 : decode cX7_isNonterminal 0 = .ok (.iload_n 0, 1) := by decide +kernel
theorem dX7_isNonterminal_1 : decode cX7_isNonterminal 1 = .ok (.bipush 65, 2) := by decide +kernel
theorem dX7_isNonterminal_3 : decode cX7_isNonterminal 3 = .ok (.if_icmp .lt 13, 3) := by decide +kernel
theorem dX7_isNonterminal_6 : decode cX7_isNonterminal 6 = .ok (.iload_n 0, 1) := by decide +kernel
theorem dX7_isNonterminal_7 : decode cX7_isNonterminal 7 = .ok (.bipush 71, 2) := by decide +kernel
theorem dX7_isNonterminal_9 : decode cX7_isNonterminal 9 = .ok (.if_icmp .ge 7, 3) := by decide +kernel
theorem dX7_isNonterminal_12 : decode cX7_isNonterminal 12 = .ok (.iconst 1, 1) := by decide +kernel
theorem dX7_isNonterminal_13 : decode cX7_isNonterminal 13 = .ok (.goto 4, 3) := by decide +kernel
theorem dX7_isNonterminal_16 : decode cX7_isNonterminal 16 = .ok (.iconst 0, 1) := by decide +kernel
theorem dX7_isNonterminal_17 : decode cX7_isNonterminal 17 = .ok (.ireturn, 1) := by decide +kernel
theorem dX8_init_0 : decode cX8_init 0 = .ok (.aload_n 0, 1) := by decide +kernel
theorem dX8_init_1 : decode cX8_init 1 = .ok (.invokespecial 3, 3) := by decide +kernel
theorem dX8_init_4 : decode cX8_init 4 = .ok (.aload_n 0, 1) := by decide +kernel
theorem dX8_init_5 : decode cX8_init 5 = .ok (.bipush 100, 2) := by decide +kernel
theorem dX8_init_7 : decode cX8_init 7 = .ok (.newarray .int, 2) := by decide +kernel
theorem dX8_init_9 : decode cX8_init 9 = .ok (.putfield 9, 3) := by decide +kernel
theorem dX8_init_12 : decode cX8_init 12 = .ok (.aload_n 0, 1) := by decide +kernel
theorem dX8_init_13 : decode cX8_init 13 = .ok (.iconst 0, 1) := by decide +kernel
theorem dX8_init_14 : decode cX8_init 14 = .ok (.putfield 15, 3) := by decide +kernel
theorem dX8_init_17 : decode cX8_init 17 = .ok (.return_, 1) := by decide +kernel
theorem dX8_size_0 : decode cX8_size 0 = .ok (.aload_n 0, 1) := by decide +kernel
theorem dX8_size_1 : decode cX8_size 1 = .ok (.getfield 15, 3) := by decide +kernel
theorem dX8_size_4 : decode cX8_size 4 = .ok (.ireturn, 1) := by decide +kernel
theorem dX8_append_0 : decode cX8_append 0 = .ok (.aload_n 0, 1) := by decide +kernel
theorem dX8_append_1 : decode cX8_append 1 = .ok (.getfield 15, 3) := by decide +kernel
theorem dX8_append_4 : decode cX8_append 4 = .ok (.bipush 100, 2) := by decide +kernel
theorem dX8_append_6 : decode cX8_append 6 = .ok (.if_icmp .ge 23, 3) := by decide +kernel
theorem dX8_append_9 : decode cX8_append 9 = .ok (.aload_n 0, 1) := by decide +kernel
theorem dX8_append_10 : decode cX8_append 10 = .ok (.getfield 9, 3) := by decide +kernel
theorem dX8_append_13 : decode cX8_append 13 = .ok (.aload_n 0, 1) := by decide +kernel
theorem dX8_append_14 : decode cX8_append 14 = .ok (.getfield 15, 3) := by decide +kernel
theorem dX8_append_17 : decode cX8_append 17 = .ok (.iload_n 1, 1) := by decide +kernel
theorem dX8_append_18 : decode cX8_append 18 = .ok (.iastore, 1) := by decide +kernel
theorem dX8_append_19 : decode cX8_append 19 = .ok (.aload_n 0, 1) := by decide +kernel
theorem dX8_append_20 : decode cX8_append 20 = .ok (.dup, 1) := by decide +kernel
theorem dX8_append_21 : decode cX8_append 21 = .ok (.getfield 15, 3) := by decide +kernel
theorem dX8_append_24 : decode cX8_append 24 = .ok (.iconst 1, 1) := by decide +kernel
theorem dX8_append_25 : decode cX8_append 25 = .ok (.iadd, 1) := by decide +kernel
theorem dX8_append_26 : decode cX8_append 26 = .ok (.putfield 15, 3) := by decide +kernel
theorem dX8_append_29 : decode cX8_append 29 = .ok (.return_, 1) := by decide +kernel
theorem dX8_drop_0 : decode cX8_drop 0 = .ok (.aload_n 0, 1) := by decide +kernel
theorem dX8_drop_1 : decode cX8_drop 1 = .ok (.iconst 0, 1) := by decide +kernel
theorem dX8_drop_2 : decode cX8_drop 2 = .ok (.putfield 15, 3) := by decide +kernel
theorem dX8_drop_5 : decode cX8_drop 5 = .ok (.return_, 1) := by decide +kernel
theorem dX8_at_0 : decode cX8_at 0 = .ok (.iload_n 1, 1) := by decide +kernel
theorem dX8_at_1 : decode cX8_at 1 = .ok (.ifCond .lt 20, 3) := by decide +kernel
theorem dX8_at_4 : decode cX8_at 4 = .ok (.iload_n 1, 1) := by decide +kernel
theorem dX8_at_5 : decode cX8_at 5 = .ok (.aload_n 0, 1) := by decide +kernel
theorem dX8_at_6 : decode cX8_at 6 = .ok (.getfield 15, 3) := by decide +kernel
theorem dX8_at_9 : decode cX8_at 9 = .ok (.if_icmp .ge 12, 3) := by decide +kernel
theorem dX8_at_12 : decode cX8_at 12 = .ok (.aload_n 0, 1) := by decide +kernel
theorem dX8_at_13 : decode cX8_at 13 = .ok (.getfield 9, 3) := by decide +kernel
theorem dX8_at_16 : decode cX8_at 16 = .ok (.iload_n 1, 1) := by decide +kernel
theorem dX8_at_17 : decode cX8_at 17 = .ok (.iaload, 1) := by decide +kernel
theorem dX8_at_18 : decode cX8_at 18 = .ok (.goto 5, 3) := by decide +kernel
theorem dX8_at_21 : decode cX8_at 21 = .ok (.bipush (-9), 2) := by decide +kernel
theorem dX8_at_23 : decode cX8_at 23 = .ok (.ireturn, 1) := by decide +kernel
theorem dX8_letterAt_0 : decode cX8_letterAt 0 = .ok (.aload_n 0, 1) := by decide +kernel
theorem dX8_letterAt_1 : decode cX8_letterAt 1 = .ok (.iload_n 1, 1) := by decide +kernel
theorem dX8_letterAt_2 : decode cX8_letterAt 2 = .ok (.invokevirtual 19, 3) := by decide +kernel
theorem dX8_letterAt_5 : decode cX8_letterAt 5 = .ok (.bipush 97, 2) := by decide +kernel
theorem dX8_letterAt_7 : decode cX8_letterAt 7 = .ok (.isub, 1) := by decide +kernel
theorem dX8_letterAt_8 : decode cX8_letterAt 8 = .ok (.ireturn, 1) := by decide +kernel
theorem dX8_inputFault_0 : decode cX8_inputFault 0 = .ok (.iconst 0, 1) := by decide +kernel
theorem dX8_inputFault_1 : decode cX8_inputFault 1 = .ok (.istore_n 1, 1) := by decide +kernel
theorem dX8_inputFault_2 : decode cX8_inputFault 2 = .ok (.iload_n 1, 1) := by decide +kernel
theorem dX8_inputFault_3 : decode cX8_inputFault 3 = .ok (.aload_n 0, 1) := by decide +kernel
theorem dX8_inputFault_4 : decode cX8_inputFault 4 = .ok (.getfield 15, 3) := by decide +kernel
theorem dX8_inputFault_7 : decode cX8_inputFault 7 = .ok (.if_icmp .ge 39, 3) := by decide +kernel
theorem dX8_inputFault_10 : decode cX8_inputFault 10 = .ok (.iload_n 1, 1) := by decide +kernel
theorem dX8_inputFault_11 : decode cX8_inputFault 11 = .ok (.bipush 8, 2) := by decide +kernel
theorem dX8_inputFault_13 : decode cX8_inputFault 13 = .ok (.if_icmp .ge 25, 3) := by decide +kernel
theorem dX8_inputFault_16 : decode cX8_inputFault 16 = .ok (.aload_n 0, 1) := by decide +kernel
theorem dX8_inputFault_17 : decode cX8_inputFault 17 = .ok (.getfield 9, 3) := by decide +kernel
theorem dX8_inputFault_20 : decode cX8_inputFault 20 = .ok (.iload_n 1, 1) := by decide +kernel
theorem dX8_inputFault_21 : decode cX8_inputFault 21 = .ok (.iaload, 1) := by decide +kernel
theorem dX8_inputFault_22 : decode cX8_inputFault 22 = .ok (.bipush 97, 2) := by decide +kernel
theorem dX8_inputFault_24 : decode cX8_inputFault 24 = .ok (.if_icmp .lt 14, 3) := by decide +kernel
theorem dX8_inputFault_27 : decode cX8_inputFault 27 = .ok (.aload_n 0, 1) := by decide +kernel
theorem dX8_inputFault_28 : decode cX8_inputFault 28 = .ok (.getfield 9, 3) := by decide +kernel
theorem dX8_inputFault_31 : decode cX8_inputFault 31 = .ok (.iload_n 1, 1) := by decide +kernel
theorem dX8_inputFault_32 : decode cX8_inputFault 32 = .ok (.iaload, 1) := by decide +kernel
theorem dX8_inputFault_33 : decode cX8_inputFault 33 = .ok (.bipush 102, 2) := by decide +kernel
theorem dX8_inputFault_35 : decode cX8_inputFault 35 = .ok (.if_icmp .lt 5, 3) := by decide +kernel
theorem dX8_inputFault_38 : decode cX8_inputFault 38 = .ok (.iload_n 1, 1) := by decide +kernel
theorem dX8_inputFault_39 : decode cX8_inputFault 39 = .ok (.ireturn, 1) := by decide +kernel
theorem dX8_inputFault_40 : decode cX8_inputFault 40 = .ok (.iinc 1 1, 3) := by decide +kernel
theorem dX8_inputFault_43 : decode cX8_inputFault 43 = .ok (.goto (-41), 3) := by decide +kernel
theorem dX8_inputFault_46 : decode cX8_inputFault 46 = .ok (.bipush (-9), 2) := by decide +kernel
theorem dX8_inputFault_48 : decode cX8_inputFault 48 = .ok (.ireturn, 1) := by decide +kernel
theorem dX9_init_0 : decode cX9_init 0 = .ok (.aload_n 0, 1) := by decide +kernel
theorem dX9_init_1 : decode cX9_init 1 = .ok (.invokespecial 3, 3) := by decide +kernel
theorem dX9_init_4 : decode cX9_init 4 = .ok (.aload_n 0, 1) := by decide +kernel
theorem dX9_init_5 : decode cX9_init 5 = .ok (.bipush 6, 2) := by decide +kernel
theorem dX9_init_7 : decode cX9_init 7 = .ok (.newarray .int, 2) := by decide +kernel
theorem dX9_init_9 : decode cX9_init 9 = .ok (.putfield 9, 3) := by decide +kernel
theorem dX9_init_12 : decode cX9_init 12 = .ok (.aload_n 0, 1) := by decide +kernel
theorem dX9_init_13 : decode cX9_init 13 = .ok (.bipush 96, 2) := by decide +kernel
theorem dX9_init_15 : decode cX9_init 15 = .ok (.newarray .int, 2) := by decide +kernel
theorem dX9_init_17 : decode cX9_init 17 = .ok (.putfield 15, 3) := by decide +kernel
theorem dX9_init_20 : decode cX9_init 20 = .ok (.aload_n 0, 1) := by decide +kernel
theorem dX9_init_21 : decode cX9_init 21 = .ok (.bipush 6, 2) := by decide +kernel
theorem dX9_init_23 : decode cX9_init 23 = .ok (.newarray .int, 2) := by decide +kernel
theorem dX9_init_25 : decode cX9_init 25 = .ok (.putfield 18, 3) := by decide +kernel
theorem dX9_init_28 : decode cX9_init 28 = .ok (.aload_n 0, 1) := by decide +kernel
theorem dX9_init_29 : decode cX9_init 29 = .ok (.bipush 6, 2) := by decide +kernel
theorem dX9_init_31 : decode cX9_init 31 = .ok (.newarray .int, 2) := by decide +kernel
theorem dX9_init_33 : decode cX9_init 33 = .ok (.putfield 21, 3) := by decide +kernel
theorem dX9_init_36 : decode cX9_init 36 = .ok (.aload_n 0, 1) := by decide +kernel
theorem dX9_init_37 : decode cX9_init 37 = .ok (.bipush 6, 2) := by decide +kernel
theorem dX9_init_39 : decode cX9_init 39 = .ok (.newarray .int, 2) := by decide +kernel
theorem dX9_init_41 : decode cX9_init 41 = .ok (.putfield 24, 3) := by decide +kernel
theorem dX9_init_44 : decode cX9_init 44 = .ok (.aload_n 0, 1) := by decide +kernel
theorem dX9_init_45 : decode cX9_init 45 = .ok (.iconst 0, 1) := by decide +kernel
theorem dX9_init_46 : decode cX9_init 46 = .ok (.putfield 27, 3) := by decide +kernel
theorem dX9_init_49 : decode cX9_init 49 = .ok (.aload_n 0, 1) := by decide +kernel
theorem dX9_init_50 : decode cX9_init 50 = .ok (.iconst 0, 1) := by decide +kernel
theorem dX9_init_51 : decode cX9_init 51 = .ok (.putfield 31, 3) := by decide +kernel
theorem dX9_init_54 : decode cX9_init 54 = .ok (.aload_n 0, 1) := by decide +kernel
theorem dX9_init_55 : decode cX9_init 55 = .ok (.iconst 0, 1) := by decide +kernel
theorem dX9_init_56 : decode cX9_init 56 = .ok (.putfield 34, 3) := by decide +kernel
theorem dX9_init_59 : decode cX9_init 59 = .ok (.aload_n 0, 1) := by decide +kernel
theorem dX9_init_60 : decode cX9_init 60 = .ok (.iconst 0, 1) := by decide +kernel
theorem dX9_init_61 : decode cX9_init 61 = .ok (.putfield 37, 3) := by decide +kernel
theorem dX9_init_64 : decode cX9_init 64 = .ok (.aload_n 0, 1) := by decide +kernel
theorem dX9_init_65 : decode cX9_init 65 = .ok (.iconst 0, 1) := by decide +kernel
theorem dX9_init_66 : decode cX9_init 66 = .ok (.putfield 40, 3) := by decide +kernel
theorem dX9_init_69 : decode cX9_init 69 = .ok (.return_, 1) := by decide +kernel
theorem dX9_fewest_0 : decode cX9_fewest 0 = .ok (.aload_n 0, 1) := by decide +kernel
theorem dX9_fewest_1 : decode cX9_fewest 1 = .ok (.getfield 9, 3) := by decide +kernel
theorem dX9_fewest_4 : decode cX9_fewest 4 = .ok (.iload_n 1, 1) := by decide +kernel
theorem dX9_fewest_5 : decode cX9_fewest 5 = .ok (.iaload, 1) := by decide +kernel
theorem dX9_fewest_6 : decode cX9_fewest 6 = .ok (.ireturn, 1) := by decide +kernel
theorem dX9_tail_0 : decode cX9_tail 0 = .ok (.aload_n 0, 1) := by decide +kernel
theorem dX9_tail_1 : decode cX9_tail 1 = .ok (.getfield 15, 3) := by decide +kernel
theorem dX9_tail_4 : decode cX9_tail 4 = .ok (.iload_n 1, 1) := by decide +kernel
theorem dX9_tail_5 : decode cX9_tail 5 = .ok (.bipush 6, 2) := by decide +kernel
theorem dX9_tail_7 : decode cX9_tail 7 = .ok (.imul, 1) := by decide +kernel
theorem dX9_tail_8 : decode cX9_tail 8 = .ok (.iload_n 2, 1) := by decide +kernel
theorem dX9_tail_9 : decode cX9_tail 9 = .ok (.iadd, 1) := by decide +kernel
theorem dX9_tail_10 : decode cX9_tail 10 = .ok (.iaload, 1) := by decide +kernel
theorem dX9_tail_11 : decode cX9_tail 11 = .ok (.ireturn, 1) := by decide +kernel
theorem dX9_reachable_0 : decode cX9_reachable 0 = .ok (.aload_n 0, 1) := by decide +kernel
theorem dX9_reachable_1 : decode cX9_reachable 1 = .ok (.getfield 34, 3) := by decide +kernel
theorem dX9_reachable_4 : decode cX9_reachable 4 = .ok (.ireturn, 1) := by decide +kernel
theorem dX9_recursive_0 : decode cX9_recursive 0 = .ok (.aload_n 0, 1) := by decide +kernel
theorem dX9_recursive_1 : decode cX9_recursive 1 = .ok (.getfield 37, 3) := by decide +kernel
theorem dX9_recursive_4 : decode cX9_recursive 4 = .ok (.ireturn, 1) := by decide +kernel
theorem dX9_cyclic_0 : decode cX9_cyclic 0 = .ok (.aload_n 0, 1) := by decide +kernel
theorem dX9_cyclic_1 : decode cX9_cyclic 1 = .ok (.getfield 40, 3) := by decide +kernel
theorem dX9_cyclic_4 : decode cX9_cyclic 4 = .ok (.ireturn, 1) := by decide +kernel
theorem dX9_recursesReachably_0 : decode cX9_recursesReachably 0 = .ok (.aload_n 0, 1) := by decide +kernel
theorem dX9_recursesReachably_1 : decode cX9_recursesReachably 1 = .ok (.getfield 37, 3) := by decide +kernel
theorem dX9_recursesReachably_4 : decode cX9_recursesReachably 4 = .ok (.aload_n 0, 1) := by decide +kernel
theorem dX9_recursesReachably_5 : decode cX9_recursesReachably 5 = .ok (.getfield 34, 3) := by decide +kernel
theorem dX9_recursesReachably_8 : decode cX9_recursesReachably 8 = .ok (.iand, 1) := by decide +kernel
theorem dX9_recursesReachably_9 : decode cX9_recursesReachably 9 = .ok (.ifCond .eq 7, 3) := by decide +kernel
theorem dX9_recursesReachably_12 : decode cX9_recursesReachably 12 = .ok (.iconst 1, 1) := by decide +kernel
theorem dX9_recursesReachably_13 : decode cX9_recursesReachably 13 = .ok (.goto 4, 3) := by decide +kernel
theorem dX9_recursesReachably_16 : decode cX9_recursesReachably 16 = .ok (.iconst 0, 1) := by decide +kernel
theorem dX9_recursesReachably_17 : decode cX9_recursesReachably 17 = .ok (.ireturn, 1) := by decide +kernel
theorem dX9_cyclesReachably_0 : decode cX9_cyclesReachably 0 = .ok (.aload_n 0, 1) := by decide +kernel
theorem dX9_cyclesReachably_1 : decode cX9_cyclesReachably 1 = .ok (.getfield 40, 3) := by decide +kernel
theorem dX9_cyclesReachably_4 : decode cX9_cyclesReachably 4 = .ok (.aload_n 0, 1) := by decide +kernel
theorem dX9_cyclesReachably_5 : decode cX9_cyclesReachably 5 = .ok (.getfield 34, 3) := by decide +kernel
theorem dX9_cyclesReachably_8 : decode cX9_cyclesReachably 8 = .ok (.iand, 1) := by decide +kernel
theorem dX9_cyclesReachably_9 : decode cX9_cyclesReachably 9 = .ok (.ifCond .eq 7, 3) := by decide +kernel
theorem dX9_cyclesReachably_12 : decode cX9_cyclesReachably 12 = .ok (.iconst 1, 1) := by decide +kernel
theorem dX9_cyclesReachably_13 : decode cX9_cyclesReachably 13 = .ok (.goto 4, 3) := by decide +kernel
theorem dX9_cyclesReachably_16 : decode cX9_cyclesReachably 16 = .ok (.iconst 0, 1) := by decide +kernel
theorem dX9_cyclesReachably_17 : decode cX9_cyclesReachably 17 = .ok (.ireturn, 1) := by decide +kernel
theorem dX9_letters_0 : decode cX9_letters 0 = .ok (.aload_n 0, 1) := by decide +kernel
theorem dX9_letters_1 : decode cX9_letters 1 = .ok (.getfield 31, 3) := by decide +kernel
theorem dX9_letters_4 : decode cX9_letters 4 = .ok (.ireturn, 1) := by decide +kernel
theorem dX9_ordered_0 : decode cX9_ordered 0 = .ok (.aload_n 0, 1) := by decide +kernel
theorem dX9_ordered_1 : decode cX9_ordered 1 = .ok (.getfield 27, 3) := by decide +kernel
theorem dX9_ordered_4 : decode cX9_ordered 4 = .ok (.ireturn, 1) := by decide +kernel
theorem dX9_inOrder_0 : decode cX9_inOrder 0 = .ok (.aload_n 0, 1) := by decide +kernel
theorem dX9_inOrder_1 : decode cX9_inOrder 1 = .ok (.getfield 24, 3) := by decide +kernel
theorem dX9_inOrder_4 : decode cX9_inOrder 4 = .ok (.iload_n 1, 1) := by decide +kernel
theorem dX9_inOrder_5 : decode cX9_inOrder 5 = .ok (.iaload, 1) := by decide +kernel
theorem dX9_inOrder_6 : decode cX9_inOrder 6 = .ok (.ireturn, 1) := by decide +kernel
theorem dX9_find_0 : decode cX9_find 0 = .ok (.aload_n 0, 1) := by decide +kernel
theorem dX9_find_1 : decode cX9_find 1 = .ok (.aload_n 1, 1) := by decide +kernel
theorem dX9_find_2 : decode cX9_find 2 = .ok (.invokevirtual 43, 3) := by decide +kernel
theorem dX9_find_5 : decode cX9_find 5 = .ok (.aload_n 0, 1) := by decide +kernel
theorem dX9_find_6 : decode cX9_find 6 = .ok (.aload_n 1, 1) := by decide +kernel
theorem dX9_find_7 : decode cX9_find 7 = .ok (.invokevirtual 47, 3) := by decide +kernel
theorem dX9_find_10 : decode cX9_find 10 = .ok (.aload_n 0, 1) := by decide +kernel
theorem dX9_find_11 : decode cX9_find 11 = .ok (.aload_n 1, 1) := by decide +kernel
theorem dX9_find_12 : decode cX9_find 12 = .ok (.invokevirtual 50, 3) := by decide +kernel
theorem dX9_find_15 : decode cX9_find 15 = .ok (.aload_n 0, 1) := by decide +kernel
theorem dX9_find_16 : decode cX9_find 16 = .ok (.aload_n 0, 1) := by decide +kernel
theorem dX9_find_17 : decode cX9_find 17 = .ok (.getfield 18, 3) := by decide +kernel
theorem dX9_find_20 : decode cX9_find 20 = .ok (.invokestatic 53, 3) := by decide +kernel
theorem dX9_find_23 : decode cX9_find 23 = .ok (.putfield 37, 3) := by decide +kernel
theorem dX9_find_26 : decode cX9_find 26 = .ok (.aload_n 0, 1) := by decide +kernel
theorem dX9_find_27 : decode cX9_find 27 = .ok (.aload_n 0, 1) := by decide +kernel
theorem dX9_find_28 : decode cX9_find 28 = .ok (.getfield 21, 3) := by decide +kernel
theorem dX9_find_31 : decode cX9_find 31 = .ok (.invokestatic 53, 3) := by decide +kernel
theorem dX9_find_34 : decode cX9_find 34 = .ok (.putfield 40, 3) := by decide +kernel
theorem dX9_find_37 : decode cX9_find 37 = .ok (.aload_n 0, 1) := by decide +kernel
theorem dX9_find_38 : decode cX9_find 38 = .ok (.invokevirtual 57, 3) := by decide +kernel
theorem dX9_find_41 : decode cX9_find 41 = .ok (.return_, 1) := by decide +kernel
theorem dX9_findFewest_0 : decode cX9_findFewest 0 = .ok (.aload_n 0, 1) := by decide +kernel
theorem dX9_findFewest_1 : decode cX9_findFewest 1 = .ok (.getfield 9, 3) := by decide +kernel
theorem dX9_findFewest_4 : decode cX9_findFewest 4 = .ok (.ldc 60, 2) := by decide +kernel
theorem dX9_findFewest_6 : decode cX9_findFewest 6 = .ok (.invokestatic 61, 3) := by decide +kernel
theorem dX9_findFewest_9 : decode cX9_findFewest 9 = .ok (.iconst 0, 1) := by decide +kernel
theorem dX9_findFewest_10 : decode cX9_findFewest 10 = .ok (.istore_n 2, 1) := by decide +kernel
theorem dX9_findFewest_11 : decode cX9_findFewest 11 = .ok (.iload_n 2, 1) := by decide +kernel
theorem dX9_findFewest_12 : decode cX9_findFewest 12 = .ok (.bipush 6, 2) := by decide +kernel
theorem dX9_findFewest_14 : decode cX9_findFewest 14 = .ok (.if_icmp .gt 61, 3) := by decide +kernel
theorem dX9_findFewest_17 : decode cX9_findFewest 17 = .ok (.iconst 0, 1) := by decide +kernel
theorem dX9_findFewest_18 : decode cX9_findFewest 18 = .ok (.istore_n 3, 1) := by decide +kernel
theorem dX9_findFewest_19 : decode cX9_findFewest 19 = .ok (.iload_n 3, 1) := by decide +kernel
theorem dX9_findFewest_20 : decode cX9_findFewest 20 = .ok (.aload_n 1, 1) := by decide +kernel
theorem dX9_findFewest_21 : decode cX9_findFewest 21 = .ok (.invokevirtual 67, 3) := by decide +kernel
theorem dX9_findFewest_24 : decode cX9_findFewest 24 = .ok (.if_icmp .ge 45, 3) := by decide +kernel
theorem dX9_findFewest_27 : decode cX9_findFewest 27 = .ok (.aload_n 0, 1) := by decide +kernel
theorem dX9_findFewest_28 : decode cX9_findFewest 28 = .ok (.aload_n 1, 1) := by decide +kernel
theorem dX9_findFewest_29 : decode cX9_findFewest 29 = .ok (.iload_n 3, 1) := by decide +kernel
theorem dX9_findFewest_30 : decode cX9_findFewest 30 = .ok (.invokevirtual 73, 3) := by decide +kernel
theorem dX9_findFewest_33 : decode cX9_findFewest 33 = .ok (.aload_n 1, 1) := by decide +kernel
theorem dX9_findFewest_34 : decode cX9_findFewest 34 = .ok (.iload_n 3, 1) := by decide +kernel
theorem dX9_findFewest_35 : decode cX9_findFewest 35 = .ok (.invokevirtual 77, 3) := by decide +kernel
theorem dX9_findFewest_38 : decode cX9_findFewest 38 = .ok (.istore 4, 2) := by decide +kernel
theorem dX9_findFewest_40 : decode cX9_findFewest 40 = .ok (.aload_n 0, 1) := by decide +kernel
theorem dX9_findFewest_41 : decode cX9_findFewest 41 = .ok (.getfield 9, 3) := by decide +kernel
theorem dX9_findFewest_44 : decode cX9_findFewest 44 = .ok (.iload 4, 2) := by decide +kernel
theorem dX9_findFewest_46 : decode cX9_findFewest 46 = .ok (.aload_n 0, 1) := by decide +kernel
theorem dX9_findFewest_47 : decode cX9_findFewest 47 = .ok (.getfield 9, 3) := by decide +kernel
theorem dX9_findFewest_50 : decode cX9_findFewest 50 = .ok (.iload 4, 2) := by decide +kernel
theorem dX9_findFewest_52 : decode cX9_findFewest 52 = .ok (.iaload, 1) := by decide +kernel
theorem dX9_findFewest_53 : decode cX9_findFewest 53 = .ok (.aload_n 0, 1) := by decide +kernel
theorem dX9_findFewest_54 : decode cX9_findFewest 54 = .ok (.iload_n 3, 1) := by decide +kernel
theorem dX9_findFewest_55 : decode cX9_findFewest 55 = .ok (.iconst 0, 1) := by decide +kernel
theorem dX9_findFewest_56 : decode cX9_findFewest 56 = .ok (.invokevirtual 81, 3) := by decide +kernel
theorem dX9_findFewest_59 : decode cX9_findFewest 59 = .ok (.invokestatic 85, 3) := by decide +kernel
theorem dX9_findFewest_62 : decode cX9_findFewest 62 = .ok (.iastore, 1) := by decide +kernel
theorem dX9_findFewest_63 : decode cX9_findFewest 63 = .ok (.iinc 3 1, 3) := by decide +kernel
theorem dX9_findFewest_66 : decode cX9_findFewest 66 = .ok (.goto (-47), 3) := by decide +kernel
theorem dX9_findFewest_69 : decode cX9_findFewest 69 = .ok (.iinc 2 1, 3) := by decide +kernel
theorem dX9_findFewest_72 : decode cX9_findFewest 72 = .ok (.goto (-61), 3) := by decide +kernel
theorem dX9_findFewest_75 : decode cX9_findFewest 75 = .ok (.return_, 1) := by decide +kernel
theorem dX9_findTails_0 : decode cX9_findTails 0 = .ok (.iconst 0, 1) := by decide +kernel
theorem dX9_findTails_1 : decode cX9_findTails 1 = .ok (.istore_n 3, 1) := by decide +kernel
theorem dX9_findTails_2 : decode cX9_findTails 2 = .ok (.aload_n 0, 1) := by decide +kernel
theorem dX9_findTails_3 : decode cX9_findTails 3 = .ok (.getfield 15, 3) := by decide +kernel
theorem dX9_findTails_6 : decode cX9_findTails 6 = .ok (.iload_n 2, 1) := by decide +kernel
theorem dX9_findTails_7 : decode cX9_findTails 7 = .ok (.bipush 6, 2) := by decide +kernel
theorem dX9_findTails_9 : decode cX9_findTails 9 = .ok (.imul, 1) := by decide +kernel
theorem dX9_findTails_10 : decode cX9_findTails 10 = .ok (.aload_n 1, 1) := by decide +kernel
theorem dX9_findTails_11 : decode cX9_findTails 11 = .ok (.iload_n 2, 1) := by decide +kernel
theorem dX9_findTails_12 : decode cX9_findTails 12 = .ok (.invokevirtual 90, 3) := by decide +kernel
theorem dX9_findTails_15 : decode cX9_findTails 15 = .ok (.iadd, 1) := by decide +kernel
theorem dX9_findTails_16 : decode cX9_findTails 16 = .ok (.iconst 0, 1) := by decide +kernel
theorem dX9_findTails_17 : decode cX9_findTails 17 = .ok (.iastore, 1) := by decide +kernel
theorem dX9_findTails_18 : decode cX9_findTails 18 = .ok (.aload_n 1, 1) := by decide +kernel
theorem dX9_findTails_19 : decode cX9_findTails 19 = .ok (.iload_n 2, 1) := by decide +kernel
theorem dX9_findTails_20 : decode cX9_findTails 20 = .ok (.invokevirtual 90, 3) := by decide +kernel
theorem dX9_findTails_23 : decode cX9_findTails 23 = .ok (.iconst 1, 1) := by decide +kernel
theorem dX9_findTails_24 : decode cX9_findTails 24 = .ok (.isub, 1) := by decide +kernel
theorem dX9_findTails_25 : decode cX9_findTails 25 = .ok (.istore 4, 2) := by decide +kernel
