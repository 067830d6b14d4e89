theorem dX12_tellName_28 : decode cX12_tellName 28 = .ok (.ireturn, 1) := by decide +kernel
theorem dX12_tellName_29 : decode cX12_tellName 29 = .ok (.aload_n 0, 1) := by decide +kernel
theorem dX12_tellName_30 : decode cX12_tellName 30 = .ok (.iload_n 1, 1) := by decide +kernel
theorem dX12_tellName_31 : decode cX12_tellName 31 = .ok (.invokevirtual 217, 3) := by decide +kernel
theorem dX12_tellName_34 : decode cX12_tellName 34 = .ok (.ifCond .ne 5, 3) := by decide +kernel
theorem dX12_tellName_37 : decode cX12_tellName 37 = .ok (.iconst 0, 1) := by decide +kernel
theorem dX12_tellName_38 : decode cX12_tellName 38 = .ok (.ireturn, 1) := by decide +kernel
theorem dX12_tellName_39 : decode cX12_tellName 39 = .ok (.iload_n 2, 1) := by decide +kernel
theorem dX12_tellName_40 : decode cX12_tellName 40 = .ok (.ifCond .ne 7, 3) := by decide +kernel
theorem dX12_tellName_43 : decode cX12_tellName 43 = .ok (.iconst 1, 1) := by decide +kernel
theorem dX12_tellName_44 : decode cX12_tellName 44 = .ok (.goto 4, 3) := by decide +kernel
theorem dX12_tellName_47 : decode cX12_tellName 47 = .ok (.iconst 0, 1) := by decide +kernel
theorem dX12_tellName_48 : decode cX12_tellName 48 = .ok (.istore_n 3, 1) := by decide +kernel
theorem dX12_tellName_49 : decode cX12_tellName 49 = .ok (.iload_n 2, 1) := by decide +kernel
theorem dX12_tellName_50 : decode cX12_tellName 50 = .ok (.tableswitch 104 1 5 #[34, 44, 64, 74, 89], 34) := by decide +kernel
theorem dX12_tellName_84 : decode cX12_tellName 84 = .ok (.aload_n 0, 1) := by decide +kernel
theorem dX12_tellName_85 : decode cX12_tellName 85 = .ok (.getfield 26, 3) := by decide +kernel
theorem dX12_tellName_88 : decode cX12_tellName 88 = .ok (.iload_n 1, 1) := by decide +kernel
theorem dX12_tellName_89 : decode cX12_tellName 89 = .ok (.baload, 1) := by decide +kernel
theorem dX12_tellName_90 : decode cX12_tellName 90 = .ok (.istore_n 3, 1) := by decide +kernel
theorem dX12_tellName_91 : decode cX12_tellName 91 = .ok (.goto 63, 3) := by decide +kernel
theorem dX12_tellName_94 : decode cX12_tellName 94 = .ok (.aload_n 0, 1) := by decide +kernel
theorem dX12_tellName_95 : decode cX12_tellName 95 = .ok (.getfield 30, 3) := by decide +kernel
theorem dX12_tellName_98 : decode cX12_tellName 98 = .ok (.iload_n 1, 1) := by decide +kernel
theorem dX12_tellName_99 : decode cX12_tellName 99 = .ok (.iaload, 1) := by decide +kernel
theorem dX12_tellName_100 : decode cX12_tellName 100 = .ok (.ldc 123, 2) := by decide +kernel
theorem dX12_tellName_102 : decode cX12_tellName 102 = .ok (.if_icmp .ge 7, 3) := by decide +kernel
theorem dX12_tellName_105 : decode cX12_tellName 105 = .ok (.iconst 1, 1) := by decide +kernel
theorem dX12_tellName_106 : decode cX12_tellName 106 = .ok (.goto 4, 3) := by decide +kernel
theorem dX12_tellName_109 : decode cX12_tellName 109 = .ok (.iconst 0, 1) := by decide +kernel
theorem dX12_tellName_110 : decode cX12_tellName 110 = .ok (.istore_n 3, 1) := by decide +kernel
theorem dX12_tellName_111 : decode cX12_tellName 111 = .ok (.goto 43, 3) := by decide +kernel
theorem dX12_tellName_114 : decode cX12_tellName 114 = .ok (.aload_n 0, 1) := by decide +kernel
theorem dX12_tellName_115 : decode cX12_tellName 115 = .ok (.getfield 33, 3) := by decide +kernel
theorem dX12_tellName_118 : decode cX12_tellName 118 = .ok (.iload_n 1, 1) := by decide +kernel
theorem dX12_tellName_119 : decode cX12_tellName 119 = .ok (.baload, 1) := by decide +kernel
theorem dX12_tellName_120 : decode cX12_tellName 120 = .ok (.istore_n 3, 1) := by decide +kernel
theorem dX12_tellName_121 : decode cX12_tellName 121 = .ok (.goto 33, 3) := by decide +kernel
theorem dX12_tellName_124 : decode cX12_tellName 124 = .ok (.aload_n 0, 1) := by decide +kernel
theorem dX12_tellName_125 : decode cX12_tellName 125 = .ok (.getfield 36, 3) := by decide +kernel
theorem dX12_tellName_128 : decode cX12_tellName 128 = .ok (.bipush 6, 2) := by decide +kernel
theorem dX12_tellName_130 : decode cX12_tellName 130 = .ok (.iload_n 1, 1) := by decide +kernel
theorem dX12_tellName_131 : decode cX12_tellName 131 = .ok (.imul, 1) := by decide +kernel
theorem dX12_tellName_132 : decode cX12_tellName 132 = .ok (.iload_n 1, 1) := by decide +kernel
theorem dX12_tellName_133 : decode cX12_tellName 133 = .ok (.iadd, 1) := by decide +kernel
theorem dX12_tellName_134 : decode cX12_tellName 134 = .ok (.baload, 1) := by decide +kernel
theorem dX12_tellName_135 : decode cX12_tellName 135 = .ok (.istore_n 3, 1) := by decide +kernel
theorem dX12_tellName_136 : decode cX12_tellName 136 = .ok (.goto 18, 3) := by decide +kernel
theorem dX12_tellName_139 : decode cX12_tellName 139 = .ok (.aload_n 0, 1) := by decide +kernel
theorem dX12_tellName_140 : decode cX12_tellName 140 = .ok (.getfield 39, 3) := by decide +kernel
theorem dX12_tellName_143 : decode cX12_tellName 143 = .ok (.bipush 6, 2) := by decide +kernel
theorem dX12_tellName_145 : decode cX12_tellName 145 = .ok (.iload_n 1, 1) := by decide +kernel
theorem dX12_tellName_146 : decode cX12_tellName 146 = .ok (.imul, 1) := by decide +kernel
theorem dX12_tellName_147 : decode cX12_tellName 147 = .ok (.iload_n 1, 1) := by decide +kernel
theorem dX12_tellName_148 : decode cX12_tellName 148 = .ok (.iadd, 1) := by decide +kernel
theorem dX12_tellName_149 : decode cX12_tellName 149 = .ok (.baload, 1) := by decide +kernel
theorem dX12_tellName_150 : decode cX12_tellName 150 = .ok (.istore_n 3, 1) := by decide +kernel
theorem dX12_tellName_151 : decode cX12_tellName 151 = .ok (.goto 3, 3) := by decide +kernel
theorem dX12_tellName_154 : decode cX12_tellName 154 = .ok (.iload_n 2, 1) := by decide +kernel
theorem dX12_tellName_155 : decode cX12_tellName 155 = .ok (.bipush 6, 2) := by decide +kernel
theorem dX12_tellName_157 : decode cX12_tellName 157 = .ok (.if_icmp .ne 11, 3) := by decide +kernel
theorem dX12_tellName_160 : decode cX12_tellName 160 = .ok (.aload_n 0, 1) := by decide +kernel
theorem dX12_tellName_161 : decode cX12_tellName 161 = .ok (.iload_n 1, 1) := by decide +kernel
theorem dX12_tellName_162 : decode cX12_tellName 162 = .ok (.invokevirtual 106, 3) := by decide +kernel
theorem dX12_tellName_165 : decode cX12_tellName 165 = .ok (.goto 12, 3) := by decide +kernel
theorem dX12_tellName_168 : decode cX12_tellName 168 = .ok (.iload_n 3, 1) := by decide +kernel
theorem dX12_tellName_169 : decode cX12_tellName 169 = .ok (.ifCond .eq 7, 3) := by decide +kernel
theorem dX12_tellName_172 : decode cX12_tellName 172 = .ok (.iconst 1, 1) := by decide +kernel
theorem dX12_tellName_173 : decode cX12_tellName 173 = .ok (.goto 4, 3) := by decide +kernel
theorem dX12_tellName_176 : decode cX12_tellName 176 = .ok (.iconst 0, 1) := by decide +kernel
theorem dX12_tellName_177 : decode cX12_tellName 177 = .ok (.ireturn, 1) := by decide +kernel
theorem dX12_nonterminal_0 : decode cX12_nonterminal 0 = .ok (.iload_n 1, 1) := by decide +kernel
theorem dX12_nonterminal_1 : decode cX12_nonterminal 1 = .ok (.iconst 0, 1) := by decide +kernel
theorem dX12_nonterminal_2 : decode cX12_nonterminal 2 = .ok (.iconst 5, 1) := by decide +kernel
theorem dX12_nonterminal_3 : decode cX12_nonterminal 3 = .ok (.invokestatic 98, 3) := by decide +kernel
theorem dX12_nonterminal_6 : decode cX12_nonterminal 6 = .ok (.ifCond .eq 22, 3) := by decide +kernel
theorem dX12_nonterminal_9 : decode cX12_nonterminal 9 = .ok (.iload_n 2, 1) := by decide +kernel
theorem dX12_nonterminal_10 : decode cX12_nonterminal 10 = .ok (.iconst 0, 1) := by decide +kernel
theorem dX12_nonterminal_11 : decode cX12_nonterminal 11 = .ok (.bipush 7, 2) := by decide +kernel
theorem dX12_nonterminal_13 : decode cX12_nonterminal 13 = .ok (.invokestatic 98, 3) := by decide +kernel
theorem dX12_nonterminal_16 : decode cX12_nonterminal 16 = .ok (.ifCond .eq 12, 3) := by decide +kernel
theorem dX12_nonterminal_19 : decode cX12_nonterminal 19 = .ok (.aload_n 0, 1) := by decide +kernel
theorem dX12_nonterminal_20 : decode cX12_nonterminal 20 = .ok (.iload_n 1, 1) := by decide +kernel
theorem dX12_nonterminal_21 : decode cX12_nonterminal 21 = .ok (.iload_n 2, 1) := by decide +kernel
theorem dX12_nonterminal_22 : decode cX12_nonterminal 22 = .ok (.invokevirtual 220, 3) := by decide +kernel
theorem dX12_nonterminal_25 : decode cX12_nonterminal 25 = .ok (.goto 4, 3) := by decide +kernel
theorem dX12_nonterminal_28 : decode cX12_nonterminal 28 = .ok (.iconst (-1), 1) := by decide +kernel
theorem dX12_nonterminal_29 : decode cX12_nonterminal 29 = .ok (.ireturn, 1) := by decide +kernel
theorem dX12_isDepth_0 : decode cX12_isDepth 0 = .ok (.iload_n 0, 1) := by decide +kernel
theorem dX12_isDepth_1 : decode cX12_isDepth 1 = .ok (.iconst 0, 1) := by decide +kernel
theorem dX12_isDepth_2 : decode cX12_isDepth 2 = .ok (.iconst 3, 1) := by decide +kernel
theorem dX12_isDepth_3 : decode cX12_isDepth 3 = .ok (.invokestatic 98, 3) := by decide +kernel
theorem dX12_isDepth_6 : decode cX12_isDepth 6 = .ok (.ireturn, 1) := by decide +kernel
theorem dX12_first_0 : decode cX12_first 0 = .ok (.aload_n 0, 1) := by decide +kernel
theorem dX12_first_1 : decode cX12_first 1 = .ok (.iload_n 1, 1) := by decide +kernel
theorem dX12_first_2 : decode cX12_first 2 = .ok (.invokevirtual 217, 3) := by decide +kernel
theorem dX12_first_5 : decode cX12_first 5 = .ok (.ifCond .eq 18, 3) := by decide +kernel
theorem dX12_first_8 : decode cX12_first 8 = .ok (.iload_n 2, 1) := by decide +kernel
theorem dX12_first_9 : decode cX12_first 9 = .ok (.invokestatic 223, 3) := by decide +kernel
theorem dX12_first_12 : decode cX12_first 12 = .ok (.ifCond .eq 11, 3) := by decide +kernel
theorem dX12_first_15 : decode cX12_first 15 = .ok (.iload_n 3, 1) := by decide +kernel
theorem dX12_first_16 : decode cX12_first 16 = .ok (.iload_n 2, 1) := by decide +kernel
theorem dX12_first_17 : decode cX12_first 17 = .ok (.invokestatic 226, 3) := by decide +kernel
theorem dX12_first_20 : decode cX12_first 20 = .ok (.ifCond .ne 5, 3) := by decide +kernel
theorem dX12_first_23 : decode cX12_first 23 = .ok (.iconst (-1), 1) := by decide +kernel
theorem dX12_first_24 : decode cX12_first 24 = .ok (.ireturn, 1) := by decide +kernel
theorem dX12_first_25 : decode cX12_first 25 = .ok (.aload_n 0, 1) := by decide +kernel
theorem dX12_first_26 : decode cX12_first 26 = .ok (.sipush 216, 3) := by decide +kernel
theorem dX12_first_29 : decode cX12_first 29 = .ok (.iload_n 1, 1) := by decide +kernel
theorem dX12_first_30 : decode cX12_first 30 = .ok (.imul, 1) := by decide +kernel
theorem dX12_first_31 : decode cX12_first 31 = .ok (.iload_n 2, 1) := by decide +kernel
theorem dX12_first_32 : decode cX12_first 32 = .ok (.iload_n 3, 1) := by decide +kernel
theorem dX12_first_33 : decode cX12_first 33 = .ok (.invokevirtual 182, 3) := by decide +kernel
theorem dX12_first_36 : decode cX12_first 36 = .ok (.ifCond .eq 7, 3) := by decide +kernel
theorem dX12_first_39 : decode cX12_first 39 = .ok (.iconst 1, 1) := by decide +kernel
theorem dX12_first_40 : decode cX12_first 40 = .ok (.goto 4, 3) := by decide +kernel
theorem dX12_first_43 : decode cX12_first 43 = .ok (.iconst 0, 1) := by decide +kernel
theorem dX12_first_44 : decode cX12_first 44 = .ok (.ireturn, 1) := by decide +kernel
theorem dX12_follow_0 : decode cX12_follow 0 = .ok (.aload_n 0, 1) := by decide +kernel
theorem dX12_follow_1 : decode cX12_follow 1 = .ok (.iload_n 1, 1) := by decide +kernel
theorem dX12_follow_2 : decode cX12_follow 2 = .ok (.invokevirtual 217, 3) := by decide +kernel
theorem dX12_follow_5 : decode cX12_follow 5 = .ok (.ifCond .eq 18, 3) := by decide +kernel
theorem dX12_follow_8 : decode cX12_follow 8 = .ok (.iload_n 2, 1) := by decide +kernel
theorem dX12_follow_9 : decode cX12_follow 9 = .ok (.invokestatic 223, 3) := by decide +kernel
theorem dX12_follow_12 : decode cX12_follow 12 = .ok (.ifCond .eq 11, 3) := by decide +kernel
theorem dX12_follow_15 : decode cX12_follow 15 = .ok (.iload_n 3, 1) := by decide +kernel
theorem dX12_follow_16 : decode cX12_follow 16 = .ok (.iload_n 2, 1) := by decide +kernel
theorem dX12_follow_17 : decode cX12_follow 17 = .ok (.invokestatic 226, 3) := by decide +kernel
theorem dX12_follow_20 : decode cX12_follow 20 = .ok (.ifCond .ne 5, 3) := by decide +kernel
theorem dX12_follow_23 : decode cX12_follow 23 = .ok (.iconst (-1), 1) := by decide +kernel
theorem dX12_follow_24 : decode cX12_follow 24 = .ok (.ireturn, 1) := by decide +kernel
theorem dX12_follow_25 : decode cX12_follow 25 = .ok (.aload_n 0, 1) := by decide +kernel
theorem dX12_follow_26 : decode cX12_follow 26 = .ok (.sipush 1296, 3) := by decide +kernel
theorem dX12_follow_29 : decode cX12_follow 29 = .ok (.sipush 216, 3) := by decide +kernel
theorem dX12_follow_32 : decode cX12_follow 32 = .ok (.iload_n 1, 1) := by decide +kernel
theorem dX12_follow_33 : decode cX12_follow 33 = .ok (.imul, 1) := by decide +kernel
theorem dX12_follow_34 : decode cX12_follow 34 = .ok (.iadd, 1) := by decide +kernel
theorem dX12_follow_35 : decode cX12_follow 35 = .ok (.iload_n 2, 1) := by decide +kernel
theorem dX12_follow_36 : decode cX12_follow 36 = .ok (.iload_n 3, 1) := by decide +kernel
theorem dX12_follow_37 : decode cX12_follow 37 = .ok (.invokevirtual 182, 3) := by decide +kernel
theorem dX12_follow_40 : decode cX12_follow 40 = .ok (.ifCond .eq 7, 3) := by decide +kernel
theorem dX12_follow_43 : decode cX12_follow 43 = .ok (.iconst 1, 1) := by decide +kernel
theorem dX12_follow_44 : decode cX12_follow 44 = .ok (.goto 4, 3) := by decide +kernel
theorem dX12_follow_47 : decode cX12_follow 47 = .ok (.iconst 0, 1) := by decide +kernel
theorem dX12_follow_48 : decode cX12_follow 48 = .ok (.ireturn, 1) := by decide +kernel
theorem dX12_ahead_0 : decode cX12_ahead 0 = .ok (.aload_n 0, 1) := by decide +kernel
theorem dX12_ahead_1 : decode cX12_ahead 1 = .ok (.iload_n 1, 1) := by decide +kernel
theorem dX12_ahead_2 : decode cX12_ahead 2 = .ok (.invokevirtual 214, 3) := by decide +kernel
theorem dX12_ahead_5 : decode cX12_ahead 5 = .ok (.ifCond .eq 18, 3) := by decide +kernel
theorem dX12_ahead_8 : decode cX12_ahead 8 = .ok (.iload_n 2, 1) := by decide +kernel
theorem dX12_ahead_9 : decode cX12_ahead 9 = .ok (.invokestatic 223, 3) := by decide +kernel
theorem dX12_ahead_12 : decode cX12_ahead 12 = .ok (.ifCond .eq 11, 3) := by decide +kernel
theorem dX12_ahead_15 : decode cX12_ahead 15 = .ok (.iload_n 3, 1) := by decide +kernel
theorem dX12_ahead_16 : decode cX12_ahead 16 = .ok (.iload_n 2, 1) := by decide +kernel
theorem dX12_ahead_17 : decode cX12_ahead 17 = .ok (.invokestatic 226, 3) := by decide +kernel
theorem dX12_ahead_20 : decode cX12_ahead 20 = .ok (.ifCond .ne 5, 3) := by decide +kernel
theorem dX12_ahead_23 : decode cX12_ahead 23 = .ok (.iconst (-1), 1) := by decide +kernel
theorem dX12_ahead_24 : decode cX12_ahead 24 = .ok (.ireturn, 1) := by decide +kernel
theorem dX12_ahead_25 : decode cX12_ahead 25 = .ok (.aload_n 0, 1) := by decide +kernel
theorem dX12_ahead_26 : decode cX12_ahead 26 = .ok (.sipush 2592, 3) := by decide +kernel
theorem dX12_ahead_29 : decode cX12_ahead 29 = .ok (.sipush 216, 3) := by decide +kernel
theorem dX12_ahead_32 : decode cX12_ahead 32 = .ok (.iload_n 1, 1) := by decide +kernel
theorem dX12_ahead_33 : decode cX12_ahead 33 = .ok (.imul, 1) := by decide +kernel
theorem dX12_ahead_34 : decode cX12_ahead 34 = .ok (.iadd, 1) := by decide +kernel
theorem dX12_ahead_35 : decode cX12_ahead 35 = .ok (.iload_n 2, 1) := by decide +kernel
theorem dX12_ahead_36 : decode cX12_ahead 36 = .ok (.iload_n 3, 1) := by decide +kernel
theorem dX12_ahead_37 : decode cX12_ahead 37 = .ok (.invokevirtual 182, 3) := by decide +kernel
theorem dX12_ahead_40 : decode cX12_ahead 40 = .ok (.ifCond .eq 7, 3) := by decide +kernel
theorem dX12_ahead_43 : decode cX12_ahead 43 = .ok (.iconst 1, 1) := by decide +kernel
theorem dX12_ahead_44 : decode cX12_ahead 44 = .ok (.goto 4, 3) := by decide +kernel
theorem dX12_ahead_47 : decode cX12_ahead 47 = .ok (.iconst 0, 1) := by decide +kernel
theorem dX12_ahead_48 : decode cX12_ahead 48 = .ok (.ireturn, 1) := by decide +kernel
theorem dX12_words_0 : decode cX12_words 0 = .ok (.iload_n 1, 1) := by decide +kernel
theorem dX12_words_1 : decode cX12_words 1 = .ok (.iconst 0, 1) := by decide +kernel
theorem dX12_words_2 : decode cX12_words 2 = .ok (.iconst 2, 1) := by decide +kernel
theorem dX12_words_3 : decode cX12_words 3 = .ok (.invokestatic 98, 3) := by decide +kernel
theorem dX12_words_6 : decode cX12_words 6 = .ok (.ifCond .eq 34, 3) := by decide +kernel
theorem dX12_words_9 : decode cX12_words 9 = .ok (.iload_n 3, 1) := by decide +kernel
theorem dX12_words_10 : decode cX12_words 10 = .ok (.invokestatic 223, 3) := by decide +kernel
theorem dX12_words_13 : decode cX12_words 13 = .ok (.ifCond .eq 27, 3) := by decide +kernel
theorem dX12_words_16 : decode cX12_words 16 = .ok (.iload_n 1, 1) := by decide +kernel
theorem dX12_words_17 : decode cX12_words 17 = .ok (.iconst 2, 1) := by decide +kernel
theorem dX12_words_18 : decode cX12_words 18 = .ok (.if_icmp .ne 14, 3) := by decide +kernel
theorem dX12_words_21 : decode cX12_words 21 = .ok (.aload_n 0, 1) := by decide +kernel
theorem dX12_words_22 : decode cX12_words 22 = .ok (.iload_n 2, 1) := by decide +kernel
theorem dX12_words_23 : decode cX12_words 23 = .ok (.invokevirtual 214, 3) := by decide +kernel
theorem dX12_words_26 : decode cX12_words 26 = .ok (.ifCond .eq 14, 3) := by decide +kernel
theorem dX12_words_29 : decode cX12_words 29 = .ok (.goto 13, 3) := by decide +kernel
theorem dX12_words_32 : decode cX12_words 32 = .ok (.aload_n 0, 1) := by decide +kernel
theorem dX12_words_33 : decode cX12_words 33 = .ok (.iload_n 2, 1) := by decide +kernel
theorem dX12_words_34 : decode cX12_words 34 = .ok (.invokevirtual 217, 3) := by decide +kernel
theorem dX12_words_37 : decode cX12_words 37 = .ok (.ifCond .ne 5, 3) := by decide +kernel
theorem dX12_words_40 : decode cX12_words 40 = .ok (.iconst (-1), 1) := by decide +kernel
theorem dX12_words_41 : decode cX12_words 41 = .ok (.ireturn, 1) := by decide +kernel
theorem dX12_words_42 : decode cX12_words 42 = .ok (.iload_n 1, 1) := by decide +kernel
theorem dX12_words_43 : decode cX12_words 43 = .ok (.ifCond .ne 16, 3) := by decide +kernel
theorem dX12_words_46 : decode cX12_words 46 = .ok (.aload_n 0, 1) := by decide +kernel
theorem dX12_words_47 : decode cX12_words 47 = .ok (.sipush 216, 3) := by decide +kernel
theorem dX12_words_50 : decode cX12_words 50 = .ok (.iload_n 2, 1) := by decide +kernel
theorem dX12_words_51 : decode cX12_words 51 = .ok (.imul, 1) := by decide +kernel
theorem dX12_words_52 : decode cX12_words 52 = .ok (.iload_n 3, 1) := by decide +kernel
theorem dX12_words_53 : decode cX12_words 53 = .ok (.invokevirtual 229, 3) := by decide +kernel
theorem dX12_words_56 : decode cX12_words 56 = .ok (.goto 39, 3) := by decide +kernel
theorem dX12_words_59 : decode cX12_words 59 = .ok (.iload_n 1, 1) := by decide +kernel
theorem dX12_words_60 : decode cX12_words 60 = .ok (.iconst 1, 1) := by decide +kernel
theorem dX12_words_61 : decode cX12_words 61 = .ok (.if_icmp .ne 20, 3) := by decide +kernel
theorem dX12_words_64 : decode cX12_words 64 = .ok (.aload_n 0, 1) := by decide +kernel
theorem dX12_words_65 : decode cX12_words 65 = .ok (.sipush 1296, 3) := by decide +kernel
theorem dX12_words_68 : decode cX12_words 68 = .ok (.sipush 216, 3) := by decide +kernel
theorem dX12_words_71 : decode cX12_words 71 = .ok (.iload_n 2, 1) := by decide +kernel
theorem dX12_words_72 : decode cX12_words 72 = .ok (.imul, 1) := by decide +kernel
theorem dX12_words_73 : decode cX12_words 73 = .ok (.iadd, 1) := by decide +kernel
theorem dX12_words_74 : decode cX12_words 74 = .ok (.iload_n 3, 1) := by decide +kernel
theorem dX12_words_75 : decode cX12_words 75 = .ok (.invokevirtual 229, 3) := by decide +kernel
theorem dX12_words_78 : decode cX12_words 78 = .ok (.goto 17, 3) := by decide +kernel
theorem dX12_words_81 : decode cX12_words 81 = .ok (.aload_n 0, 1) := by decide +kernel
theorem dX12_words_82 : decode cX12_words 82 = .ok (.sipush 2592, 3) := by decide +kernel
theorem dX12_words_85 : decode cX12_words 85 = .ok (.sipush 216, 3) := by decide +kernel
theorem dX12_words_88 : decode cX12_words 88 = .ok (.iload_n 2, 1) := by decide +kernel
theorem dX12_words_89 : decode cX12_words 89 = .ok (.imul, 1) := by decide +kernel
theorem dX12_words_90 : decode cX12_words 90 = .ok (.iadd, 1) := by decide +kernel
theorem dX12_words_91 : decode cX12_words 91 = .ok (.iload_n 3, 1) := by decide +kernel
theorem dX12_words_92 : decode cX12_words 92 = .ok (.invokevirtual 229, 3) := by decide +kernel
theorem dX12_words_95 : decode cX12_words 95 = .ok (.ireturn, 1) := by decide +kernel
theorem dX12_word_0 : decode cX12_word 0 = .ok (.aload_n 0, 1) := by decide +kernel
theorem dX12_word_1 : decode cX12_word 1 = .ok (.iload_n 1, 1) := by decide +kernel
theorem dX12_word_2 : decode cX12_word 2 = .ok (.invokevirtual 214, 3) := by decide +kernel
theorem dX12_word_5 : decode cX12_word 5 = .ok (.ifCond .eq 14, 3) := by decide +kernel
theorem dX12_word_8 : decode cX12_word 8 = .ok (.iload_n 2, 1) := by decide +kernel
theorem dX12_word_9 : decode cX12_word 9 = .ok (.invokestatic 223, 3) := by decide +kernel
theorem dX12_word_12 : decode cX12_word 12 = .ok (.ifCond .eq 7, 3) := by decide +kernel
theorem dX12_word_15 : decode cX12_word 15 = .ok (.iload_n 3, 1) := by decide +kernel
theorem dX12_word_16 : decode cX12_word 16 = .ok (.ifCond .ge 5, 3) := by decide +kernel
theorem dX12_word_19 : decode cX12_word 19 = .ok (.iconst (-1), 1) := by decide +kernel
theorem dX12_word_20 : decode cX12_word 20 = .ok (.ireturn, 1) := by decide +kernel
theorem dX12_word_21 : decode cX12_word 21 = .ok (.iload_n 3, 1) := by decide +kernel
theorem dX12_word_22 : decode cX12_word 22 = .ok (.istore 4, 2) := by decide +kernel
theorem dX12_word_24 : decode cX12_word 24 = .ok (.iconst 0, 1) := by decide +kernel
theorem dX12_word_25 : decode cX12_word 25 = .ok (.istore 5, 2) := by decide +kernel
theorem dX12_word_27 : decode cX12_word 27 = .ok (.iload 5, 2) := by decide +kernel
theorem dX12_word_29 : decode cX12_word 29 = .ok (.sipush 216, 3) := by decide +kernel
theorem dX12_word_32 : decode cX12_word 32 = .ok (.if_icmp .ge 39, 3) := by decide +kernel
theorem dX12_word_35 : decode cX12_word 35 = .ok (.aload_n 0, 1) := by decide +kernel
theorem dX12_word_36 : decode cX12_word 36 = .ok (.sipush 2592, 3) := by decide +kernel
theorem dX12_word_39 : decode cX12_word 39 = .ok (.sipush 216, 3) := by decide +kernel
theorem dX12_word_42 : decode cX12_word 42 = .ok (.iload_n 1, 1) := by decide +kernel
theorem dX12_word_43 : decode cX12_word 43 = .ok (.imul, 1) := by decide +kernel
theorem dX12_word_44 : decode cX12_word 44 = .ok (.iadd, 1) := by decide +kernel
theorem dX12_word_45 : decode cX12_word 45 = .ok (.iload_n 2, 1) := by decide +kernel
theorem dX12_word_46 : decode cX12_word 46 = .ok (.iload 5, 2) := by decide +kernel
theorem dX12_word_48 : decode cX12_word 48 = .ok (.invokevirtual 182, 3) := by decide +kernel
theorem dX12_word_51 : decode cX12_word 51 = .ok (.ifCond .eq 14, 3) := by decide +kernel
theorem dX12_word_54 : decode cX12_word 54 = .ok (.iload 4, 2) := by decide +kernel
theorem dX12_word_56 : decode cX12_word 56 = .ok (.ifCond .ne 6, 3) := by decide +kernel
theorem dX12_word_59 : decode cX12_word 59 = .ok (.iload 5, 2) := by decide +kernel
theorem dX12_word_61 : decode cX12_word 61 = .ok (.ireturn, 1) := by decide +kernel
theorem dX12_word_62 : decode cX12_word 62 = .ok (.iinc 4 (-1), 3) := by decide +kernel
theorem dX12_word_65 : decode cX12_word 65 = .ok (.iinc 5 1, 3) := by decide +kernel
theorem dX12_word_68 : decode cX12_word 68 = .ok (.goto (-41), 3) := by decide +kernel
theorem dX12_word_71 : decode cX12_word 71 = .ok (.bipush (-9), 2) := by decide +kernel
theorem dX12_word_73 : decode cX12_word 73 = .ok (.ireturn, 1) := by decide +kernel
theorem dX12_marksOf_0 : decode cX12_marksOf 0 = .ok (.iconst 0, 1) := by decide +kernel
theorem dX12_marksOf_1 : decode cX12_marksOf 1 = .ok (.istore_n 3, 1) := by decide +kernel
theorem dX12_marksOf_2 : decode cX12_marksOf 2 = .ok (.iconst 0, 1) := by decide +kernel
theorem dX12_marksOf_3 : decode cX12_marksOf 3 = .ok (.istore 4, 2) := by decide +kernel
theorem dX12_marksOf_5 : decode cX12_marksOf 5 = .ok (.iload 4, 2) := by decide +kernel
theorem dX12_marksOf_7 : decode cX12_marksOf 7 = .ok (.sipush 216, 3) := by decide +kernel
theorem dX12_marksOf_10 : decode cX12_marksOf 10 = .ok (.if_icmp .ge 57, 3) := by decide +kernel
theorem dX12_marksOf_13 : decode cX12_marksOf 13 = .ok (.aload_n 0, 1) := by decide +kernel
theorem dX12_marksOf_14 : decode cX12_marksOf 14 = .ok (.getfield 48, 3) := by decide +kernel
theorem dX12_marksOf_17 : decode cX12_marksOf 17 = .ok (.sipush 216, 3) := by decide +kernel
theorem dX12_marksOf_20 : decode cX12_marksOf 20 = .ok (.iload_n 1, 1) := by decide +kernel
theorem dX12_marksOf_21 : decode cX12_marksOf 21 = .ok (.imul, 1) := by decide +kernel
theorem dX12_marksOf_22 : decode cX12_marksOf 22 = .ok (.iload 4, 2) := by decide +kernel
theorem dX12_marksOf_24 : decode cX12_marksOf 24 = .ok (.iadd, 1) := by decide +kernel
theorem dX12_marksOf_25 : decode cX12_marksOf 25 = .ok (.baload, 1) := by decide +kernel
theorem dX12_marksOf_26 : decode cX12_marksOf 26 = .ok (.ifCond .eq 35, 3) := by decide +kernel
theorem dX12_marksOf_29 : decode cX12_marksOf 29 = .ok (.iload_n 3, 1) := by decide +kernel
theorem dX12_marksOf_30 : decode cX12_marksOf 30 = .ok (.iload 4, 2) := by decide +kernel
theorem dX12_marksOf_32 : decode cX12_marksOf 32 = .ok (.invokestatic 131, 3) := by decide +kernel
theorem dX12_marksOf_35 : decode cX12_marksOf 35 = .ok (.iload_n 2, 1) := by decide +kernel
theorem dX12_marksOf_36 : decode cX12_marksOf 36 = .ok (.if_icmp .gt 8, 3) := by decide +kernel
theorem dX12_marksOf_39 : decode cX12_marksOf 39 = .ok (.bipush 32, 2) := by decide +kernel
theorem dX12_marksOf_41 : decode cX12_marksOf 41 = .ok (.goto 18, 3) := by decide +kernel
theorem dX12_marksOf_44 : decode cX12_marksOf 44 = .ok (.iconst 1, 1) := by decide +kernel
theorem dX12_marksOf_45 : decode cX12_marksOf 45 = .ok (.iload 4, 2) := by decide +kernel
theorem dX12_marksOf_47 : decode cX12_marksOf 47 = .ok (.iload_n 2, 1) := by decide +kernel
theorem dX12_marksOf_48 : decode cX12_marksOf 48 = .ok (.iconst 1, 1) := by decide +kernel
theorem dX12_marksOf_49 : decode cX12_marksOf 49 = .ok (.iadd, 1) := by decide +kernel
theorem dX12_marksOf_50 : decode cX12_marksOf 50 = .ok (.invokestatic 137, 3) := by decide +kernel
theorem dX12_marksOf_53 : decode cX12_marksOf 53 = .ok (.bipush 6, 2) := by decide +kernel
theorem dX12_marksOf_55 : decode cX12_marksOf 55 = .ok (.irem, 1) := by decide +kernel
theorem dX12_marksOf_56 : decode cX12_marksOf 56 = .ok (.iconst 1, 1) := by decide +kernel
theorem dX12_marksOf_57 : decode cX12_marksOf 57 = .ok (.isub, 1) := by decide +kernel
theorem dX12_marksOf_58 : decode cX12_marksOf 58 = .ok (.ishl, 1) := by decide +kernel
theorem dX12_marksOf_59 : decode cX12_marksOf 59 = .ok (.ior, 1) := by decide +kernel
theorem dX12_marksOf_60 : decode cX12_marksOf 60 = .ok (.istore_n 3, 1) := by decide +kernel
theorem dX12_marksOf_61 : decode cX12_marksOf 61 = .ok (.iinc 4 1, 3) := by decide +kernel
theorem dX12_marksOf_64 : decode cX12_marksOf 64 = .ok (.goto (-59), 3) := by decide +kernel
theorem dX12_marksOf_67 : decode cX12_marksOf 67 = .ok (.iload_n 3, 1) := by decide +kernel
theorem dX12_marksOf_68 : decode cX12_marksOf 68 = .ok (.ireturn, 1) := by decide +kernel
theorem dX12_marks_0 : decode cX12_marks 0 = .ok (.aload_n 0, 1) := by decide +kernel
theorem dX12_marks_1 : decode cX12_marks 1 = .ok (.iload_n 1, 1) := by decide +kernel
theorem dX12_marks_2 : decode cX12_marks 2 = .ok (.invokevirtual 214, 3) := by decide +kernel
theorem dX12_marks_5 : decode cX12_marks 5 = .ok (.ifCond .eq 21, 3) := by decide +kernel
theorem dX12_marks_8 : decode cX12_marks 8 = .ok (.iload_n 2, 1) := by decide +kernel
theorem dX12_marks_9 : decode cX12_marks 9 = .ok (.iconst 0, 1) := by decide +kernel
theorem dX12_marks_10 : decode cX12_marks 10 = .ok (.iconst 2, 1) := by decide +kernel
theorem dX12_marks_11 : decode cX12_marks 11 = .ok (.invokestatic 98, 3) := by decide +kernel
theorem dX12_marks_14 : decode cX12_marks 14 = .ok (.ifCond .eq 12, 3) := by decide +kernel
theorem dX12_marks_17 : decode cX12_marks 17 = .ok (.aload_n 0, 1) := by decide +kernel
theorem dX12_marks_18 : decode cX12_marks 18 = .ok (.iload_n 1, 1) := by decide +kernel
theorem dX12_marks_19 : decode cX12_marks 19 = .ok (.iload_n 2, 1) := by decide +kernel
theorem dX12_marks_20 : decode cX12_marks 20 = .ok (.invokevirtual 232, 3) := by decide +kernel
theorem dX12_marks_23 : decode cX12_marks 23 = .ok (.goto 4, 3) := by decide +kernel
theorem dX12_marks_26 : decode cX12_marks 26 = .ok (.iconst (-1), 1) := by decide +kernel
theorem dX12_marks_27 : decode cX12_marks 27 = .ok (.ireturn, 1) := by decide +kernel
theorem dX12_clashOf_0 : decode cX12_clashOf 0 = .ok (.iconst 0, 1) := by decide +kernel
theorem dX12_clashOf_1 : decode cX12_clashOf 1 = .ok (.istore 4, 2) := by decide +kernel
theorem dX12_clashOf_3 : decode cX12_clashOf 3 = .ok (.iload 4, 2) := by decide +kernel
theorem dX12_clashOf_5 : decode cX12_clashOf 5 = .ok (.sipush 216, 3) := by decide +kernel
theorem dX12_clashOf_8 : decode cX12_clashOf 8 = .ok (.if_icmp .ge 50, 3) := by decide +kernel
theorem dX12_clashOf_11 : decode cX12_clashOf 11 = .ok (.aload_n 0, 1) := by decide +kernel
theorem dX12_clashOf_12 : decode cX12_clashOf 12 = .ok (.sipush 2592, 3) := by decide +kernel
theorem dX12_clashOf_15 : decode cX12_clashOf 15 = .ok (.sipush 216, 3) := by decide +kernel
theorem dX12_clashOf_18 : decode cX12_clashOf 18 = .ok (.iload_n 1, 1) := by decide +kernel
theorem dX12_clashOf_19 : decode cX12_clashOf 19 = .ok (.imul, 1) := by decide +kernel
theorem dX12_clashOf_20 : decode cX12_clashOf 20 = .ok (.iadd, 1) := by decide +kernel
theorem dX12_clashOf_21 : decode cX12_clashOf 21 = .ok (.iload_n 3, 1) := by decide +kernel
theorem dX12_clashOf_22 : decode cX12_clashOf 22 = .ok (.iload 4, 2) := by decide +kernel
theorem dX12_clashOf_24 : decode cX12_clashOf 24 = .ok (.invokevirtual 182, 3) := by decide +kernel
theorem dX12_clashOf_27 : decode cX12_clashOf 27 = .ok (.ifCond .eq 25, 3) := by decide +kernel
theorem dX12_clashOf_30 : decode cX12_clashOf 30 = .ok (.aload_n 0, 1) := by decide +kernel
theorem dX12_clashOf_31 : decode cX12_clashOf 31 = .ok (.sipush 2592, 3) := by decide +kernel
theorem dX12_clashOf_34 : decode cX12_clashOf 34 = .ok (.sipush 216, 3) := by decide +kernel
theorem dX12_clashOf_37 : decode cX12_clashOf 37 = .ok (.iload_n 2, 1) := by decide +kernel
theorem dX12_clashOf_38 : decode cX12_clashOf 38 = .ok (.imul, 1) := by decide +kernel
theorem dX12_clashOf_39 : decode cX12_clashOf 39 = .ok (.iadd, 1) := by decide +kernel
theorem dX12_clashOf_40 : decode cX12_clashOf 40 = .ok (.iload_n 3, 1) := by decide +kernel
theorem dX12_clashOf_41 : decode cX12_clashOf 41 = .ok (.iload 4, 2) := by decide +kernel
theorem dX12_clashOf_43 : decode cX12_clashOf 43 = .ok (.invokevirtual 182, 3) := by decide +kernel
theorem dX12_clashOf_46 : decode cX12_clashOf 46 = .ok (.ifCond .eq 6, 3) := by decide +kernel
theorem dX12_clashOf_49 : decode cX12_clashOf 49 = .ok (.iload 4, 2) := by decide +kernel
theorem dX12_clashOf_51 : decode cX12_clashOf 51 = .ok (.ireturn, 1) := by decide +kernel
theorem dX12_clashOf_52 : decode cX12_clashOf 52 = .ok (.iinc 4 1, 3) := by decide +kernel
theorem dX12_clashOf_55 : decode cX12_clashOf 55 = .ok (.goto (-52), 3) := by decide +kernel
theorem dX12_clashOf_58 : decode cX12_clashOf 58 = .ok (.bipush (-9), 2) := by decide +kernel
theorem dX12_clashOf_60 : decode cX12_clashOf 60 = .ok (.ireturn, 1) := by decide +kernel
theorem dX12_pairOf_0 : decode cX12_pairOf 0 = .ok (.iconst 0, 1) := by decide +kernel
theorem dX12_pairOf_1 : decode cX12_pairOf 1 = .ok (.istore_n 3, 1) := by decide +kernel
theorem dX12_pairOf_2 : decode cX12_pairOf 2 = .ok (.iload_n 3, 1) := by decide +kernel
theorem dX12_pairOf_3 : decode cX12_pairOf 3 = .ok (.aload_n 0, 1) := by decide +kernel
theorem dX12_pairOf_4 : decode cX12_pairOf 4 = .ok (.invokevirtual 94, 3) := by decide +kernel
theorem dX12_pairOf_7 : decode cX12_pairOf 7 = .ok (.if_icmp .ge 69, 3) := by decide +kernel
theorem dX12_pairOf_10 : decode cX12_pairOf 10 = .ok (.iload_n 3, 1) := by decide +kernel
theorem dX12_pairOf_11 : decode cX12_pairOf 11 = .ok (.iconst 1, 1) := by decide +kernel
theorem dX12_pairOf_12 : decode cX12_pairOf 12 = .ok (.iadd, 1) := by decide +kernel
theorem dX12_pairOf_13 : decode cX12_pairOf 13 = .ok (.istore 4, 2) := by decide +kernel
theorem dX12_pairOf_15 : decode cX12_pairOf 15 = .ok (.iload 4, 2) := by decide +kernel
theorem dX12_pairOf_17 : decode cX12_pairOf 17 = .ok (.aload_n 0, 1) := by decide +kernel
theorem dX12_pairOf_18 : decode cX12_pairOf 18 = .ok (.invokevirtual 94, 3) := by decide +kernel
theorem dX12_pairOf_21 : decode cX12_pairOf 21 = .ok (.if_icmp .ge 49, 3) := by decide +kernel
theorem dX12_pairOf_24 : decode cX12_pairOf 24 = .ok (.aload_n 0, 1) := by decide +kernel
theorem dX12_pairOf_25 : decode cX12_pairOf 25 = .ok (.iload_n 3, 1) := by decide +kernel
theorem dX12_pairOf_26 : decode cX12_pairOf 26 = .ok (.invokevirtual 102, 3) := by decide +kernel
theorem dX12_pairOf_29 : decode cX12_pairOf 29 = .ok (.iload_n 1, 1) := by decide +kernel
theorem dX12_pairOf_30 : decode cX12_pairOf 30 = .ok (.if_icmp .ne 34, 3) := by decide +kernel
theorem dX12_pairOf_33 : decode cX12_pairOf 33 = .ok (.aload_n 0, 1) := by decide +kernel
theorem dX12_pairOf_34 : decode cX12_pairOf 34 = .ok (.iload 4, 2) := by decide +kernel
theorem dX12_pairOf_36 : decode cX12_pairOf 36 = .ok (.invokevirtual 102, 3) := by decide +kernel
theorem dX12_pairOf_39 : decode cX12_pairOf 39 = .ok (.iload_n 1, 1) := by decide +kernel
theorem dX12_pairOf_40 : decode cX12_pairOf 40 = .ok (.if_icmp .ne 24, 3) := by decide +kernel
theorem dX12_pairOf_43 : decode cX12_pairOf 43 = .ok (.aload_n 0, 1) := by decide +kernel
theorem dX12_pairOf_44 : decode cX12_pairOf 44 = .ok (.iload_n 3, 1) := by decide +kernel
theorem dX12_pairOf_45 : decode cX12_pairOf 45 = .ok (.iload 4, 2) := by decide +kernel
theorem dX12_pairOf_47 : decode cX12_pairOf 47 = .ok (.iload_n 2, 1) := by decide +kernel
theorem dX12_pairOf_48 : decode cX12_pairOf 48 = .ok (.invokevirtual 235, 3) := by decide +kernel
theorem dX12_pairOf_51 : decode cX12_pairOf 51 = .ok (.bipush (-9), 2) := by decide +kernel
theorem dX12_pairOf_53 : decode cX12_pairOf 53 = .ok (.if_icmp .eq 11, 3) := by decide +kernel
theorem dX12_pairOf_56 : decode cX12_pairOf 56 = .ok (.bipush 100, 2) := by decide +kernel
theorem dX12_pairOf_58 : decode cX12_pairOf 58 = .ok (.iload_n 3, 1) := by decide +kernel
theorem dX12_pairOf_59 : decode cX12_pairOf 59 = .ok (.imul, 1) := by decide +kernel
theorem dX12_pairOf_60 : decode cX12_pairOf 60 = .ok (.iload 4, 2) := by decide +kernel
theorem dX12_pairOf_62 : decode cX12_pairOf 62 = .ok (.iadd, 1) := by decide +kernel
theorem dX12_pairOf_63 : decode cX12_pairOf 63 = .ok (.ireturn, 1) := by decide +kernel
theorem dX12_pairOf_64 : decode cX12_pairOf 64 = .ok (.iinc 4 1, 3) := by decide +kernel
theorem dX12_pairOf_67 : decode cX12_pairOf 67 = .ok (.goto (-52), 3) := by decide +kernel
theorem dX12_pairOf_70 : decode cX12_pairOf 70 = .ok (.iinc 3 1, 3) := by decide +kernel
theorem dX12_pairOf_73 : decode cX12_pairOf 73 = .ok (.goto (-71), 3) := by decide +kernel
theorem dX12_pairOf_76 : decode cX12_pairOf 76 = .ok (.bipush (-9), 2) := by decide +kernel
theorem dX12_pairOf_78 : decode cX12_pairOf 78 = .ok (.ireturn, 1) := by decide +kernel
theorem dX12_depthOf_0 : decode cX12_depthOf 0 = .ok (.iconst 0, 1) := by decide +kernel
theorem dX12_depthOf_1 : decode cX12_depthOf 1 = .ok (.istore_n 2, 1) := by decide +kernel
theorem dX12_depthOf_2 : decode cX12_depthOf 2 = .ok (.iload_n 2, 1) := by decide +kernel
theorem dX12_depthOf_3 : decode cX12_depthOf 3 = .ok (.iconst 4, 1) := by decide +kernel
theorem dX12_depthOf_4 : decode cX12_depthOf 4 = .ok (.if_icmp .ge 22, 3) := by decide +kernel
theorem dX12_depthOf_7 : decode cX12_depthOf 7 = .ok (.aload_n 0, 1) := by decide +kernel
theorem dX12_depthOf_8 : decode cX12_depthOf 8 = .ok (.iload_n 1, 1) := by decide +kernel
theorem dX12_depthOf_9 : decode cX12_depthOf 9 = .ok (.iload_n 2, 1) := by decide +kernel
theorem dX12_depthOf_10 : decode cX12_depthOf 10 = .ok (.invokevirtual 239, 3) := by decide +kernel
theorem dX12_depthOf_13 : decode cX12_depthOf 13 = .ok (.bipush (-9), 2) := by decide +kernel
theorem dX12_depthOf_15 : decode cX12_depthOf 15 = .ok (.if_icmp .ne 5, 3) := by decide +kernel
theorem dX12_depthOf_18 : decode cX12_depthOf 18 = .ok (.iload_n 2, 1) := by decide +kernel
theorem dX12_depthOf_19 : decode cX12_depthOf 19 = .ok (.ireturn, 1) := by decide +kernel
theorem dX12_depthOf_20 : decode cX12_depthOf 20 = .ok (.iinc 2 1, 3) := by decide +kernel
theorem dX12_depthOf_23 : decode cX12_depthOf 23 = .ok (.goto (-21), 3) := by decide +kernel
theorem dX12_depthOf_26 : decode cX12_depthOf 26 = .ok (.bipush (-9), 2) := by decide +kernel
theorem dX12_depthOf_28 : decode cX12_depthOf 28 = .ok (.ireturn, 1) := by decide +kernel
theorem dX12_depth_0 : decode cX12_depth 0 = .ok (.aload_n 0, 1) := by decide +kernel
theorem dX12_depth_1 : decode cX12_depth 1 = .ok (.iload_n 1, 1) := by decide +kernel
theorem dX12_depth_2 : decode cX12_depth 2 = .ok (.invokevirtual 217, 3) := by decide +kernel
theorem dX12_depth_5 : decode cX12_depth 5 = .ok (.ifCond .eq 11, 3) := by decide +kernel
theorem dX12_depth_8 : decode cX12_depth 8 = .ok (.aload_n 0, 1) := by decide +kernel
theorem dX12_depth_9 : decode cX12_depth 9 = .ok (.iload_n 1, 1) := by decide +kernel
theorem dX12_depth_10 : decode cX12_depth 10 = .ok (.invokevirtual 242, 3) := by decide +kernel
theorem dX12_depth_13 : decode cX12_depth 13 = .ok (.goto 4, 3) := by decide +kernel
theorem dX12_depth_16 : decode cX12_depth 16 = .ok (.iconst (-1), 1) := by decide +kernel
theorem dX12_depth_17 : decode cX12_depth 17 = .ok (.ireturn, 1) := by decide +kernel
theorem dX12_partedAt_0 : decode cX12_partedAt 0 = .ok (.iconst 0, 1) := by decide +kernel
theorem dX12_partedAt_1 : decode cX12_partedAt 1 = .ok (.istore_n 3, 1) := by decide +kernel
theorem dX12_partedAt_2 : decode cX12_partedAt 2 = .ok (.iload_n 3, 1) := by decide +kernel
theorem dX12_partedAt_3 : decode cX12_partedAt 3 = .ok (.iconst 3, 1) := by decide +kernel
theorem dX12_partedAt_4 : decode cX12_partedAt 4 = .ok (.if_icmp .ge 25, 3) := by decide +kernel
theorem dX12_partedAt_7 : decode cX12_partedAt 7 = .ok (.aload_n 0, 1) := by decide +kernel
theorem dX12_partedAt_8 : decode cX12_partedAt 8 = .ok (.iload_n 1, 1) := by decide +kernel
theorem dX12_partedAt_9 : decode cX12_partedAt 9 = .ok (.iload_n 3, 1) := by decide +kernel
theorem dX12_partedAt_10 : decode cX12_partedAt 10 = .ok (.invokevirtual 232, 3) := by decide +kernel
theorem dX12_partedAt_13 : decode cX12_partedAt 13 = .ok (.aload_n 0, 1) := by decide +kernel
theorem dX12_partedAt_14 : decode cX12_partedAt 14 = .ok (.iload_n 2, 1) := by decide +kernel
theorem dX12_partedAt_15 : decode cX12_partedAt 15 = .ok (.iload_n 3, 1) := by decide +kernel
theorem dX12_partedAt_16 : decode cX12_partedAt 16 = .ok (.invokevirtual 232, 3) := by decide +kernel
theorem dX12_partedAt_19 : decode cX12_partedAt 19 = .ok (.iand, 1) := by decide +kernel
theorem dX12_partedAt_20 : decode cX12_partedAt 20 = .ok (.ifCond .eq 9, 3) := by decide +kernel
theorem dX12_partedAt_23 : decode cX12_partedAt 23 = .ok (.iinc 3 1, 3) := by decide +kernel
theorem dX12_partedAt_26 : decode cX12_partedAt 26 = .ok (.goto (-24), 3) := by decide +kernel
theorem dX12_partedAt_29 : decode cX12_partedAt 29 = .ok (.iload_n 3, 1) := by decide +kernel
theorem dX12_partedAt_30 : decode cX12_partedAt 30 = .ok (.ireturn, 1) := by decide +kernel
theorem dX12_approximateOf_0 : decode cX12_approximateOf 0 = .ok (.iconst 0, 1) := by decide +kernel
theorem dX12_approximateOf_1 : decode cX12_approximateOf 1 = .ok (.istore_n 2, 1) := by decide +kernel
theorem dX12_approximateOf_2 : decode cX12_approximateOf 2 = .ok (.iconst 0, 1) := by decide +kernel
theorem dX12_approximateOf_3 : decode cX12_approximateOf 3 = .ok (.istore_n 3, 1) := by decide +kernel
theorem dX12_approximateOf_4 : decode cX12_approximateOf 4 = .ok (.iload_n 3, 1) := by decide +kernel
theorem dX12_approximateOf_5 : decode cX12_approximateOf 5 = .ok (.aload_n 0, 1) := by decide +kernel
theorem dX12_approximateOf_6 : decode cX12_approximateOf 6 = .ok (.invokevirtual 94, 3) := by decide +kernel
theorem dX12_approximateOf_9 : decode cX12_approximateOf 9 = .ok (.if_icmp .ge 72, 3) := by decide +kernel
theorem dX12_approximateOf_12 : decode cX12_approximateOf 12 = .ok (.iload_n 3, 1) := by decide +kernel
theorem dX12_approximateOf_13 : decode cX12_approximateOf 13 = .ok (.iconst 1, 1) := by decide +kernel
theorem dX12_approximateOf_14 : decode cX12_approximateOf 14 = .ok (.iadd, 1) := by decide +kernel
theorem dX12_approximateOf_15 : decode cX12_approximateOf 15 = .ok (.istore 4, 2) := by decide +kernel
theorem dX12_approximateOf_17 : decode cX12_approximateOf 17 = .ok (.iload 4, 2) := by decide +kernel
theorem dX12_approximateOf_19 : decode cX12_approximateOf 19 = .ok (.aload_n 0, 1) := by decide +kernel
theorem dX12_approximateOf_20 : decode cX12_approximateOf 20 = .ok (.invokevirtual 94, 3) := by decide +kernel
theorem dX12_approximateOf_23 : decode cX12_approximateOf 23 = .ok (.if_icmp .ge 52, 3) := by decide +kernel
theorem dX12_approximateOf_26 : decode cX12_approximateOf 26 = .ok (.aload_n 0, 1) := by decide +kernel
theorem dX12_approximateOf_27 : decode cX12_approximateOf 27 = .ok (.iload_n 3, 1) := by decide +kernel
theorem dX12_approximateOf_28 : decode cX12_approximateOf 28 = .ok (.invokevirtual 102, 3) := by decide +kernel
theorem dX12_approximateOf_31 : decode cX12_approximateOf 31 = .ok (.iload_n 1, 1) := by decide +kernel
theorem dX12_approximateOf_32 : decode cX12_approximateOf 32 = .ok (.if_icmp .ne 37, 3) := by decide +kernel
theorem dX12_approximateOf_35 : decode cX12_approximateOf 35 = .ok (.aload_n 0, 1) := by decide +kernel
theorem dX12_approximateOf_36 : decode cX12_approximateOf 36 = .ok (.iload 4, 2) := by decide +kernel
theorem dX12_approximateOf_38 : decode cX12_approximateOf 38 = .ok (.invokevirtual 102, 3) := by decide +kernel
theorem dX12_approximateOf_41 : decode cX12_approximateOf 41 = .ok (.iload_n 1, 1) := by decide +kernel
theorem dX12_approximateOf_42 : decode cX12_approximateOf 42 = .ok (.if_icmp .ne 27, 3) := by decide +kernel
theorem dX12_approximateOf_45 : decode cX12_approximateOf 45 = .ok (.aload_n 0, 1) := by decide +kernel
theorem dX12_approximateOf_46 : decode cX12_approximateOf 46 = .ok (.iload_n 3, 1) := by decide +kernel
theorem dX12_approximateOf_47 : decode cX12_approximateOf 47 = .ok (.iload 4, 2) := by decide +kernel
theorem dX12_approximateOf_49 : decode cX12_approximateOf 49 = .ok (.invokevirtual 245, 3) := by decide +kernel
theorem dX12_approximateOf_52 : decode cX12_approximateOf 52 = .ok (.iconst 1, 1) := by decide +kernel
theorem dX12_approximateOf_53 : decode cX12_approximateOf 53 = .ok (.iadd, 1) := by decide +kernel
theorem dX12_approximateOf_54 : decode cX12_approximateOf 54 = .ok (.istore 5, 2) := by decide +kernel
theorem dX12_approximateOf_56 : decode cX12_approximateOf 56 = .ok (.iload 5, 2) := by decide +kernel
theorem dX12_approximateOf_58 : decode cX12_approximateOf 58 = .ok (.iload_n 2, 1) := by decide +kernel
theorem dX12_approximateOf_59 : decode cX12_approximateOf 59 = .ok (.if_icmp .le 8, 3) := by decide +kernel
theorem dX12_approximateOf_62 : decode cX12_approximateOf 62 = .ok (.iload 5, 2) := by decide +kernel
theorem dX12_approximateOf_64 : decode cX12_approximateOf 64 = .ok (.goto 4, 3) := by decide +kernel
theorem dX12_approximateOf_67 : decode cX12_approximateOf 67 = .ok (.iload_n 2, 1) := by decide +kernel
theorem dX12_approximateOf_68 : decode cX12_approximateOf 68 = .ok (.istore_n 2, 1) := by decide +kernel
theorem dX12_approximateOf_69 : decode cX12_approximateOf 69 = .ok (.iinc 4 1, 3) := by decide +kernel
theorem dX12_approximateOf_72 : decode cX12_approximateOf 72 = .ok (.goto (-55), 3) := by decide +kernel
theorem dX12_approximateOf_75 : decode cX12_approximateOf 75 = .ok (.iinc 3 1, 3) := by decide +kernel
theorem dX12_approximateOf_78 : decode cX12_approximateOf 78 = .ok (.goto (-74), 3) := by decide +kernel
theorem dX12_approximateOf_81 : decode cX12_approximateOf 81 = .ok (.iload_n 2, 1) := by decide +kernel
theorem dX12_approximateOf_82 : decode cX12_approximateOf 82 = .ok (.iconst 3, 1) := by decide +kernel
theorem dX12_approximateOf_83 : decode cX12_approximateOf 83 = .ok (.if_icmp .le 8, 3) := by decide +kernel
theorem dX12_approximateOf_86 : decode cX12_approximateOf 86 = .ok (.bipush (-9), 2) := by decide +kernel
theorem dX12_approximateOf_88 : decode cX12_approximateOf 88 = .ok (.goto 4, 3) := by decide +kernel
theorem dX12_approximateOf_91 : decode cX12_approximateOf 91 = .ok (.iload_n 2, 1) := by decide +kernel
theorem dX12_approximateOf_92 : decode cX12_approximateOf 92 = .ok (.ireturn, 1) := by decide +kernel
theorem dX12_approximate_0 : decode cX12_approximate 0 = .ok (.aload_n 0, 1) := by decide +kernel
theorem dX12_approximate_1 : decode cX12_approximate 1 = .ok (.iload_n 1, 1) := by decide +kernel
theorem dX12_approximate_2 : decode cX12_approximate 2 = .ok (.invokevirtual 217, 3) := by decide +kernel
theorem dX12_approximate_5 : decode cX12_approximate 5 = .ok (.ifCond .eq 11, 3) := by decide +kernel
theorem dX12_approximate_8 : decode cX12_approximate 8 = .ok (.aload_n 0, 1) := by decide +kernel
theorem dX12_approximate_9 : decode cX12_approximate 9 = .ok (.iload_n 1, 1) := by decide +kernel
theorem dX12_approximate_10 : decode cX12_approximate 10 = .ok (.invokevirtual 248, 3) := by decide +kernel
theorem dX12_approximate_13 : decode cX12_approximate 13 = .ok (.goto 4, 3) := by decide +kernel
theorem dX12_approximate_16 : decode cX12_approximate 16 = .ok (.iconst (-1), 1) := by decide +kernel
theorem dX12_approximate_17 : decode cX12_approximate 17 = .ok (.ireturn, 1) := by decide +kernel
theorem dX12_deepest_0 : decode cX12_deepest 0 = .ok (.iconst 0, 1) := by decide +kernel
theorem dX12_deepest_1 : decode cX12_deepest 1 = .ok (.istore_n 2, 1) := by decide +kernel
theorem dX12_deepest_2 : decode cX12_deepest 2 = .ok (.iconst 0, 1) := by decide +kernel
theorem dX12_deepest_3 : decode cX12_deepest 3 = .ok (.istore_n 3, 1) := by decide +kernel
theorem dX12_deepest_4 : decode cX12_deepest 4 = .ok (.iload_n 3, 1) := by decide +kernel
theorem dX12_deepest_5 : decode cX12_deepest 5 = .ok (.bipush 6, 2) := by decide +kernel
theorem dX12_deepest_7 : decode cX12_deepest 7 = .ok (.if_icmp .ge 59, 3) := by decide +kernel
theorem dX12_deepest_10 : decode cX12_deepest 10 = .ok (.aload_n 0, 1) := by decide +kernel
theorem dX12_deepest_11 : decode cX12_deepest 11 = .ok (.iload_n 3, 1) := by decide +kernel
theorem dX12_deepest_12 : decode cX12_deepest 12 = .ok (.invokevirtual 217, 3) := by decide +kernel
theorem dX12_deepest_15 : decode cX12_deepest 15 = .ok (.ifCond .eq 45, 3) := by decide +kernel
theorem dX12_deepest_18 : decode cX12_deepest 18 = .ok (.iload_n 1, 1) := by decide +kernel
theorem dX12_deepest_19 : decode cX12_deepest 19 = .ok (.ifCond .eq 11, 3) := by decide +kernel
theorem dX12_deepest_22 : decode cX12_deepest 22 = .ok (.aload_n 0, 1) := by decide +kernel
theorem dX12_deepest_23 : decode cX12_deepest 23 = .ok (.iload_n 3, 1) := by decide +kernel
theorem dX12_deepest_24 : decode cX12_deepest 24 = .ok (.invokevirtual 248, 3) := by decide +kernel
theorem dX12_deepest_27 : decode cX12_deepest 27 = .ok (.goto 8, 3) := by decide +kernel
theorem dX12_deepest_30 : decode cX12_deepest 30 = .ok (.aload_n 0, 1) := by decide +kernel
theorem dX12_deepest_31 : decode cX12_deepest 31 = .ok (.iload_n 3, 1) := by decide +kernel
theorem dX12_deepest_32 : decode cX12_deepest 32 = .ok (.invokevirtual 242, 3) := by decide +kernel
theorem dX12_deepest_35 : decode cX12_deepest 35 = .ok (.istore 4, 2) := by decide +kernel
theorem dX12_deepest_37 : decode cX12_deepest 37 = .ok (.iload 4, 2) := by decide +kernel
theorem dX12_deepest_39 : decode cX12_deepest 39 = .ok (.bipush (-9), 2) := by decide +kernel
theorem dX12_deepest_41 : decode cX12_deepest 41 = .ok (.if_icmp .ne 6, 3) := by decide +kernel
theorem dX12_deepest_44 : decode cX12_deepest 44 = .ok (.bipush (-9), 2) := by decide +kernel
theorem dX12_deepest_46 : decode cX12_deepest 46 = .ok (.ireturn, 1) := by decide +kernel
theorem dX12_deepest_47 : decode cX12_deepest 47 = .ok (.iload 4, 2) := by decide +kernel
theorem dX12_deepest_49 : decode cX12_deepest 49 = .ok (.iload_n 2, 1) := by decide +kernel
theorem dX12_deepest_50 : decode cX12_deepest 50 = .ok (.if_icmp .le 8, 3) := by decide +kernel
theorem dX12_deepest_53 : decode cX12_deepest 53 = .ok (.iload 4, 2) := by decide +kernel
theorem dX12_deepest_55 : decode cX12_deepest 55 = .ok (.goto 4, 3) := by decide +kernel
theorem dX12_deepest_58 : decode cX12_deepest 58 = .ok (.iload_n 2, 1) := by decide +kernel
theorem dX12_deepest_59 : decode cX12_deepest 59 = .ok (.istore_n 2, 1) := by decide +kernel
theorem dX12_deepest_60 : decode cX12_deepest 60 = .ok (.iinc 3 1, 3) := by decide +kernel
theorem dX12_deepest_63 : decode cX12_deepest 63 = .ok (.goto (-59), 3) := by decide +kernel
theorem dX12_deepest_66 : decode cX12_deepest 66 = .ok (.iload_n 2, 1) := by decide +kernel
theorem dX12_deepest_67 : decode cX12_deepest 67 = .ok (.ireturn, 1) := by decide +kernel
theorem dX12_clash_0 : decode cX12_clash 0 = .ok (.aload_n 0, 1) := by decide +kernel
theorem dX12_clash_1 : decode cX12_clash 1 = .ok (.iload_n 1, 1) := by decide +kernel
theorem dX12_clash_2 : decode cX12_clash 2 = .ok (.invokevirtual 217, 3) := by decide +kernel
theorem dX12_clash_5 : decode cX12_clash 5 = .ok (.ifCond .eq 19, 3) := by decide +kernel
theorem dX12_clash_8 : decode cX12_clash 8 = .ok (.iload_n 2, 1) := by decide +kernel
theorem dX12_clash_9 : decode cX12_clash 9 = .ok (.invokestatic 223, 3) := by decide +kernel
theorem dX12_clash_12 : decode cX12_clash 12 = .ok (.ifCond .eq 12, 3) := by decide +kernel
theorem dX12_clash_15 : decode cX12_clash 15 = .ok (.aload_n 0, 1) := by decide +kernel
theorem dX12_clash_16 : decode cX12_clash 16 = .ok (.iload_n 1, 1) := by decide +kernel
theorem dX12_clash_17 : decode cX12_clash 17 = .ok (.iload_n 2, 1) := by decide +kernel
theorem dX12_clash_18 : decode cX12_clash 18 = .ok (.invokevirtual 239, 3) := by decide +kernel
theorem dX12_clash_21 : decode cX12_clash 21 = .ok (.goto 4, 3) := by decide +kernel
theorem dX12_clash_24 : decode cX12_clash 24 = .ok (.iconst (-1), 1) := by decide +kernel
theorem dX12_clash_25 : decode cX12_clash 25 = .ok (.ireturn, 1) := by decide +kernel
theorem dX12_clashWord_0 : decode cX12_clashWord 0 = .ok (.aload_n 0, 1) := by decide +kernel
theorem dX12_clashWord_1 : decode cX12_clashWord 1 = .ok (.iload_n 1, 1) := by decide +kernel
theorem dX12_clashWord_2 : decode cX12_clashWord 2 = .ok (.invokevirtual 214, 3) := by decide +kernel
theorem dX12_clashWord_5 : decode cX12_clashWord 5 = .ok (.ifCond .eq 28, 3) := by decide +kernel
theorem dX12_clashWord_8 : decode cX12_clashWord 8 = .ok (.aload_n 0, 1) := by decide +kernel
theorem dX12_clashWord_9 : decode cX12_clashWord 9 = .ok (.iload_n 2, 1) := by decide +kernel
theorem dX12_clashWord_10 : decode cX12_clashWord 10 = .ok (.invokevirtual 214, 3) := by decide +kernel
theorem dX12_clashWord_13 : decode cX12_clashWord 13 = .ok (.ifCond .eq 20, 3) := by decide +kernel
theorem dX12_clashWord_16 : decode cX12_clashWord 16 = .ok (.iload_n 3, 1) := by decide +kernel
theorem dX12_clashWord_17 : decode cX12_clashWord 17 = .ok (.invokestatic 223, 3) := by decide +kernel
theorem dX12_clashWord_20 : decode cX12_clashWord 20 = .ok (.ifCond .eq 13, 3) := by decide +kernel
theorem dX12_clashWord_23 : decode cX12_clashWord 23 = .ok (.aload_n 0, 1) := by decide +kernel
theorem dX12_clashWord_24 : decode cX12_clashWord 24 = .ok (.iload_n 1, 1) := by decide +kernel
theorem dX12_clashWord_25 : decode cX12_clashWord 25 = .ok (.iload_n 2, 1) := by decide +kernel
theorem dX12_clashWord_26 : decode cX12_clashWord 26 = .ok (.iload_n 3, 1) := by decide +kernel
theorem dX12_clashWord_27 : decode cX12_clashWord 27 = .ok (.invokevirtual 235, 3) := by decide +kernel
theorem dX12_clashWord_30 : decode cX12_clashWord 30 = .ok (.goto 4, 3) := by decide +kernel
theorem dX12_clashWord_33 : decode cX12_clashWord 33 = .ok (.iconst (-1), 1) := by decide +kernel
theorem dX12_clashWord_34 : decode cX12_clashWord 34 = .ok (.ireturn, 1) := by decide +kernel
theorem dX12_laysInput_0 : decode cX12_laysInput 0 = .ok (.aload_n 0, 1) := by decide +kernel
theorem dX12_laysInput_1 : decode cX12_laysInput 1 = .ok (.iconst 0, 1) := by decide +kernel
theorem dX12_laysInput_2 : decode cX12_laysInput 2 = .ok (.putfield 251, 3) := by decide +kernel
theorem dX12_laysInput_5 : decode cX12_laysInput 5 = .ok (.iconst 0, 1) := by decide +kernel
theorem dX12_laysInput_6 : decode cX12_laysInput 6 = .ok (.istore_n 1, 1) := by decide +kernel
theorem dX12_laysInput_7 : decode cX12_laysInput 7 = .ok (.iload_n 1, 1) := by decide +kernel
theorem dX12_laysInput_8 : decode cX12_laysInput 8 = .ok (.aload_n 0, 1) := by decide +kernel
theorem dX12_laysInput_9 : decode cX12_laysInput 9 = .ok (.getfield 185, 3) := by decide +kernel
theorem dX12_laysInput_12 : decode cX12_laysInput 12 = .ok (.if_icmp .ge 58, 3) := by decide +kernel
theorem dX12_laysInput_15 : decode cX12_laysInput 15 = .ok (.aload_n 0, 1) := by decide +kernel
theorem dX12_laysInput_16 : decode cX12_laysInput 16 = .ok (.getfield 16, 3) := by decide +kernel
theorem dX12_laysInput_19 : decode cX12_laysInput 19 = .ok (.iload_n 1, 1) := by decide +kernel
theorem dX12_laysInput_20 : decode cX12_laysInput 20 = .ok (.iaload, 1) := by decide +kernel
theorem dX12_laysInput_21 : decode cX12_laysInput 21 = .ok (.bipush 97, 2) := by decide +kernel
theorem dX12_laysInput_23 : decode cX12_laysInput 23 = .ok (.bipush 101, 2) := by decide +kernel
theorem dX12_laysInput_25 : decode cX12_laysInput 25 = .ok (.invokestatic 98, 3) := by decide +kernel
theorem dX12_laysInput_28 : decode cX12_laysInput 28 = .ok (.ifCond .eq 9, 3) := by decide +kernel
theorem dX12_laysInput_31 : decode cX12_laysInput 31 = .ok (.iload_n 1, 1) := by decide +kernel
theorem dX12_laysInput_32 : decode cX12_laysInput 32 = .ok (.bipush 8, 2) := by decide +kernel
theorem dX12_laysInput_34 : decode cX12_laysInput 34 = .ok (.if_icmp .ne 5, 3) := by decide +kernel
theorem dX12_laysInput_37 : decode cX12_laysInput 37 = .ok (.iload_n 1, 1) := by decide +kernel
theorem dX12_laysInput_38 : decode cX12_laysInput 38 = .ok (.ireturn, 1) := by decide +kernel
theorem dX12_laysInput_39 : decode cX12_laysInput 39 = .ok (.aload_n 0, 1) := by decide +kernel
theorem dX12_laysInput_40 : decode cX12_laysInput 40 = .ok (.getfield 66, 3) := by decide +kernel
theorem dX12_laysInput_43 : decode cX12_laysInput 43 = .ok (.iload_n 1, 1) := by decide +kernel
theorem dX12_laysInput_44 : decode cX12_laysInput 44 = .ok (.aload_n 0, 1) := by decide +kernel
theorem dX12_laysInput_45 : decode cX12_laysInput 45 = .ok (.getfield 16, 3) := by decide +kernel
theorem dX12_laysInput_48 : decode cX12_laysInput 48 = .ok (.iload_n 1, 1) := by decide +kernel
theorem dX12_laysInput_49 : decode cX12_laysInput 49 = .ok (.iaload, 1) := by decide +kernel
theorem dX12_laysInput_50 : decode cX12_laysInput 50 = .ok (.bipush 97, 2) := by decide +kernel
theorem dX12_laysInput_52 : decode cX12_laysInput 52 = .ok (.isub, 1) := by decide +kernel
theorem dX12_laysInput_53 : decode cX12_laysInput 53 = .ok (.iastore, 1) := by decide +kernel
theorem dX12_laysInput_54 : decode cX12_laysInput 54 = .ok (.aload_n 0, 1) := by decide +kernel
theorem dX12_laysInput_55 : decode cX12_laysInput 55 = .ok (.dup, 1) := by decide +kernel
theorem dX12_laysInput_56 : decode cX12_laysInput 56 = .ok (.getfield 251, 3) := by decide +kernel
theorem dX12_laysInput_59 : decode cX12_laysInput 59 = .ok (.iconst 1, 1) := by decide +kernel
theorem dX12_laysInput_60 : decode cX12_laysInput 60 = .ok (.iadd, 1) := by decide +kernel
theorem dX12_laysInput_61 : decode cX12_laysInput 61 = .ok (.putfield 251, 3) := by decide +kernel
theorem dX12_laysInput_64 : decode cX12_laysInput 64 = .ok (.iinc 1 1, 3) := by decide +kernel
theorem dX12_laysInput_67 : decode cX12_laysInput 67 = .ok (.goto (-60), 3) := by decide +kernel
theorem dX12_laysInput_70 : decode cX12_laysInput 70 = .ok (.bipush (-9), 2) := by decide +kernel
theorem dX12_laysInput_72 : decode cX12_laysInput 72 = .ok (.ireturn, 1) := by decide +kernel
theorem dX12_someReached_0 : decode cX12_someReached 0 = .ok (.iconst 0, 1) := by decide +kernel
theorem dX12_someReached_1 : decode cX12_someReached 1 = .ok (.istore_n 2, 1) := by decide +kernel
theorem dX12_someReached_2 : decode cX12_someReached 2 = .ok (.iconst 0, 1) := by decide +kernel
theorem dX12_someReached_3 : decode cX12_someReached 3 = .ok (.istore_n 3, 1) := by decide +kernel
theorem dX12_someReached_4 : decode cX12_someReached 4 = .ok (.iload_n 3, 1) := by decide +kernel
theorem dX12_someReached_5 : decode cX12_someReached 5 = .ok (.bipush 6, 2) := by decide +kernel
theorem dX12_someReached_7 : decode cX12_someReached 7 = .ok (.if_icmp .ge 39, 3) := by decide +kernel
theorem dX12_someReached_10 : decode cX12_someReached 10 = .ok (.iload_n 2, 1) := by decide +kernel
theorem dX12_someReached_11 : decode cX12_someReached 11 = .ok (.ifCond .ne 23, 3) := by decide +kernel
theorem dX12_someReached_14 : decode cX12_someReached 14 = .ok (.aload_n 0, 1) := by decide +kernel
theorem dX12_someReached_15 : decode cX12_someReached 15 = .ok (.getfield 33, 3) := by decide +kernel
theorem dX12_someReached_18 : decode cX12_someReached 18 = .ok (.iload_n 3, 1) := by decide +kernel
theorem dX12_someReached_19 : decode cX12_someReached 19 = .ok (.baload, 1) := by decide +kernel
theorem dX12_someReached_20 : decode cX12_someReached 20 = .ok (.ifCond .eq 18, 3) := by decide +kernel
theorem dX12_someReached_23 : decode cX12_someReached 23 = .ok (.aload_n 1, 1) := by decide +kernel
theorem dX12_someReached_24 : decode cX12_someReached 24 = .ok (.bipush 6, 2) := by decide +kernel
theorem dX12_someReached_26 : decode cX12_someReached 26 = .ok (.iload_n 3, 1) := by decide +kernel
theorem dX12_someReached_27 : decode cX12_someReached 27 = .ok (.imul, 1) := by decide +kernel
theorem dX12_someReached_28 : decode cX12_someReached 28 = .ok (.iload_n 3, 1) := by decide +kernel
theorem dX12_someReached_29 : decode cX12_someReached 29 = .ok (.iadd, 1) := by decide +kernel
theorem dX12_someReached_30 : decode cX12_someReached 30 = .ok (.baload, 1) := by decide +kernel
theorem dX12_someReached_31 : decode cX12_someReached 31 = .ok (.ifCond .eq 7, 3) := by decide +kernel
theorem dX12_someReached_34 : decode cX12_someReached 34 = .ok (.iconst 1, 1) := by decide +kernel
theorem dX12_someReached_35 : decode cX12_someReached 35 = .ok (.goto 4, 3) := by decide +kernel
theorem dX12_someReached_38 : decode cX12_someReached 38 = .ok (.iconst 0, 1) := by decide +kernel
theorem dX12_someReached_39 : decode cX12_someReached 39 = .ok (.istore_n 2, 1) := by decide +kernel
theorem dX12_someReached_40 : decode cX12_someReached 40 = .ok (.iinc 3 1, 3) := by decide +kernel
theorem dX12_someReached_43 : decode cX12_someReached 43 = .ok (.goto (-39), 3) := by decide +kernel
theorem dX12_someReached_46 : decode cX12_someReached 46 = .ok (.iload_n 2, 1) := by decide +kernel
theorem dX12_someReached_47 : decode cX12_someReached 47 = .ok (.ireturn, 1) := by decide +kernel
theorem dX12_restBy_0 : decode cX12_restBy 0 = .ok (.iconst 0, 1) := by decide +kernel
theorem dX12_restBy_1 : decode cX12_restBy 1 = .ok (.istore_n 3, 1) := by decide +kernel
theorem dX12_restBy_2 : decode cX12_restBy 2 = .ok (.iload_n 1, 1) := by decide +kernel
theorem dX12_restBy_3 : decode cX12_restBy 3 = .ok (.istore 4, 2) := by decide +kernel
theorem dX12_restBy_5 : decode cX12_restBy 5 = .ok (.iload 4, 2) := by decide +kernel
theorem dX12_restBy_7 : decode cX12_restBy 7 = .ok (.aload_n 0, 1) := by decide +kernel
theorem dX12_restBy_8 : decode cX12_restBy 8 = .ok (.getfield 251, 3) := by decide +kernel
theorem dX12_restBy_11 : decode cX12_restBy 11 = .ok (.if_icmp .ge 32, 3) := by decide +kernel
theorem dX12_restBy_14 : decode cX12_restBy 14 = .ok (.iload 4, 2) := by decide +kernel
theorem dX12_restBy_16 : decode cX12_restBy 16 = .ok (.iload_n 1, 1) := by decide +kernel
theorem dX12_restBy_17 : decode cX12_restBy 17 = .ok (.iload_n 2, 1) := by decide +kernel
theorem dX12_restBy_18 : decode cX12_restBy 18 = .ok (.iadd, 1) := by decide +kernel
theorem dX12_restBy_19 : decode cX12_restBy 19 = .ok (.if_icmp .ge 24, 3) := by decide +kernel
theorem dX12_restBy_22 : decode cX12_restBy 22 = .ok (.bipush 6, 2) := by decide +kernel
theorem dX12_restBy_24 : decode cX12_restBy 24 = .ok (.iload_n 3, 1) := by decide +kernel
theorem dX12_restBy_25 : decode cX12_restBy 25 = .ok (.imul, 1) := by decide +kernel
theorem dX12_restBy_26 : decode cX12_restBy 26 = .ok (.aload_n 0, 1) := by decide +kernel
theorem dX12_restBy_27 : decode cX12_restBy 27 = .ok (.getfield 66, 3) := by decide +kernel
theorem dX12_restBy_30 : decode cX12_restBy 30 = .ok (.iload 4, 2) := by decide +kernel
theorem dX12_restBy_32 : decode cX12_restBy 32 = .ok (.iaload, 1) := by decide +kernel
theorem dX12_restBy_33 : decode cX12_restBy 33 = .ok (.iadd, 1) := by decide +kernel
theorem dX12_restBy_34 : decode cX12_restBy 34 = .ok (.iconst 1, 1) := by decide +kernel
theorem dX12_restBy_35 : decode cX12_restBy 35 = .ok (.iadd, 1) := by decide +kernel
theorem dX12_restBy_36 : decode cX12_restBy 36 = .ok (.istore_n 3, 1) := by decide +kernel
theorem dX12_restBy_37 : decode cX12_restBy 37 = .ok (.iinc 4 1, 3) := by decide +kernel
theorem dX12_restBy_40 : decode cX12_restBy 40 = .ok (.goto (-35), 3) := by decide +kernel
theorem dX12_restBy_43 : decode cX12_restBy 43 = .ok (.iload_n 3, 1) := by decide +kernel
theorem dX12_restBy_44 : decode cX12_restBy 44 = .ok (.ireturn, 1) := by decide +kernel
theorem dX12_choose_0 : decode cX12_choose 0 = .ok (.aload_n 0, 1) := by decide +kernel
theorem dX12_choose_1 : decode cX12_choose 1 = .ok (.iload_n 1, 1) := by decide +kernel
theorem dX12_choose_2 : decode cX12_choose 2 = .ok (.invokevirtual 242, 3) := by decide +kernel
theorem dX12_choose_5 : decode cX12_choose 5 = .ok (.istore_n 3, 1) := by decide +kernel
theorem dX12_choose_6 : decode cX12_choose 6 = .ok (.aload_n 0, 1) := by decide +kernel
theorem dX12_choose_7 : decode cX12_choose 7 = .ok (.iload_n 2, 1) := by decide +kernel
theorem dX12_choose_8 : decode cX12_choose 8 = .ok (.iload_n 3, 1) := by decide +kernel
theorem dX12_choose_9 : decode cX12_choose 9 = .ok (.invokevirtual 254, 3) := by decide +kernel
theorem dX12_choose_12 : decode cX12_choose 12 = .ok (.istore 4, 2) := by decide +kernel
theorem dX12_choose_14 : decode cX12_choose 14 = .ok (.iconst 0, 1) := by decide +kernel
theorem dX12_choose_15 : decode cX12_choose 15 = .ok (.istore 5, 2) := by decide +kernel
theorem dX12_choose_17 : decode cX12_choose 17 = .ok (.iload 5, 2) := by decide +kernel
theorem dX12_choose_19 : decode cX12_choose 19 = .ok (.aload_n 0, 1) := by decide +kernel
theorem dX12_choose_20 : decode cX12_choose 20 = .ok (.invokevirtual 94, 3) := by decide +kernel
theorem dX12_choose_23 : decode cX12_choose 23 = .ok (.if_icmp .ge 42, 3) := by decide +kernel
theorem dX12_choose_26 : decode cX12_choose 26 = .ok (.aload_n 0, 1) := by decide +kernel
theorem dX12_choose_27 : decode cX12_choose 27 = .ok (.iload 5, 2) := by decide +kernel
theorem dX12_choose_29 : decode cX12_choose 29 = .ok (.invokevirtual 102, 3) := by decide +kernel
theorem dX12_choose_32 : decode cX12_choose 32 = .ok (.iload_n 1, 1) := by decide +kernel
theorem dX12_choose_33 : decode cX12_choose 33 = .ok (.if_icmp .ne 26, 3) := by decide +kernel
theorem dX12_choose_36 : decode cX12_choose 36 = .ok (.aload_n 0, 1) := by decide +kernel
theorem dX12_choose_37 : decode cX12_choose 37 = .ok (.sipush 2592, 3) := by decide +kernel
theorem dX12_choose_40 : decode cX12_choose 40 = .ok (.sipush 216, 3) := by decide +kernel
theorem dX12_choose_43 : decode cX12_choose 43 = .ok (.iload 5, 2) := by decide +kernel
theorem dX12_choose_45 : decode cX12_choose 45 = .ok (.imul, 1) := by decide +kernel
theorem dX12_choose_46 : decode cX12_choose 46 = .ok (.iadd, 1) := by decide +kernel
theorem dX12_choose_47 : decode cX12_choose 47 = .ok (.iload_n 3, 1) := by decide +kernel
theorem dX12_choose_48 : decode cX12_choose 48 = .ok (.iload 4, 2) := by decide +kernel
theorem dX12_choose_50 : decode cX12_choose 50 = .ok (.invokevirtual 182, 3) := by decide +kernel
theorem dX12_choose_53 : decode cX12_choose 53 = .ok (.ifCond .eq 6, 3) := by decide +kernel
theorem dX12_choose_56 : decode cX12_choose 56 = .ok (.iload 5, 2) := by decide +kernel
theorem dX12_choose_58 : decode cX12_choose 58 = .ok (.ireturn, 1) := by decide +kernel
theorem dX12_choose_59 : decode cX12_choose 59 = .ok (.iinc 5 1, 3) := by decide +kernel
theorem dX12_choose_62 : decode cX12_choose 62 = .ok (.goto (-45), 3) := by decide +kernel
theorem dX12_choose_65 : decode cX12_choose 65 = .ok (.bipush (-9), 2) := by decide +kernel
theorem dX12_choose_67 : decode cX12_choose 67 = .ok (.ireturn, 1) := by decide +kernel
theorem dX12_parse_0 : decode cX12_parse 0 = .ok (.aload_n 0, 1) := by decide +kernel
theorem dX12_parse_1 : decode cX12_parse 1 = .ok (.iconst 0, 1) := by decide +kernel
theorem dX12_parse_2 : decode cX12_parse 2 = .ok (.putfield 257, 3) := by decide +kernel
theorem dX12_parse_5 : decode cX12_parse 5 = .ok (.aload_n 0, 1) := by decide +kernel
theorem dX12_parse_6 : decode cX12_parse 6 = .ok (.iconst 0, 1) := by decide +kernel
theorem dX12_parse_7 : decode cX12_parse 7 = .ok (.invokevirtual 260, 3) := by decide +kernel
theorem dX12_parse_10 : decode cX12_parse 10 = .ok (.bipush (-9), 2) := by decide +kernel
theorem dX12_parse_12 : decode cX12_parse 12 = .ok (.if_icmp .eq 14, 3) := by decide +kernel
theorem dX12_parse_15 : decode cX12_parse 15 = .ok (.aload_n 0, 1) := by decide +kernel
theorem dX12_parse_16 : decode cX12_parse 16 = .ok (.aload_n 0, 1) := by decide +kernel
theorem dX12_parse_17 : decode cX12_parse 17 = .ok (.getfield 36, 3) := by decide +kernel
theorem dX12_parse_20 : decode cX12_parse 20 = .ok (.invokevirtual 264, 3) := by decide +kernel
theorem dX12_parse_23 : decode cX12_parse 23 = .ok (.ifCond .eq 6, 3) := by decide +kernel
theorem dX12_parse_26 : decode cX12_parse 26 = .ok (.bipush (-2), 2) := by decide +kernel
theorem dX12_parse_28 : decode cX12_parse 28 = .ok (.ireturn, 1) := by decide +kernel
theorem dX12_parse_29 : decode cX12_parse 29 = .ok (.aload_n 0, 1) := by decide +kernel
theorem dX12_parse_30 : decode cX12_parse 30 = .ok (.invokevirtual 268, 3) := by decide +kernel
theorem dX12_parse_33 : decode cX12_parse 33 = .ok (.istore_n 1, 1) := by decide +kernel
theorem dX12_parse_34 : decode cX12_parse 34 = .ok (.iload_n 1, 1) := by decide +kernel
theorem dX12_parse_35 : decode cX12_parse 35 = .ok (.bipush (-9), 2) := by decide +kernel
theorem dX12_parse_37 : decode cX12_parse 37 = .ok (.if_icmp .eq 8, 3) := by decide +kernel
theorem dX12_parse_40 : decode cX12_parse 40 = .ok (.bipush (-100), 2) := by decide +kernel
theorem dX12_parse_42 : decode cX12_parse 42 = .ok (.iload_n 1, 1) := by decide +kernel
theorem dX12_parse_43 : decode cX12_parse 43 = .ok (.isub, 1) := by decide +kernel
theorem dX12_parse_44 : decode cX12_parse 44 = .ok (.ireturn, 1) := by decide +kernel
theorem dX12_parse_45 : decode cX12_parse 45 = .ok (.iconst 1, 1) := by decide +kernel
theorem dX12_parse_46 : decode cX12_parse 46 = .ok (.istore_n 2, 1) := by decide +kernel
theorem dX12_parse_47 : decode cX12_parse 47 = .ok (.iconst 0, 1) := by decide +kernel
theorem dX12_parse_48 : decode cX12_parse 48 = .ok (.istore_n 3, 1) := by decide +kernel
theorem dX12_parse_49 : decode cX12_parse 49 = .ok (.aload_n 0, 1) := by decide +kernel
theorem dX12_parse_50 : decode cX12_parse 50 = .ok (.getfield 69, 3) := by decide +kernel
theorem dX12_parse_53 : decode cX12_parse 53 = .ok (.iconst 0, 1) := by decide +kernel
theorem dX12_parse_54 : decode cX12_parse 54 = .ok (.bipush 10, 2) := by decide +kernel
theorem dX12_parse_56 : decode cX12_parse 56 = .ok (.aload_n 0, 1) := by decide +kernel
theorem dX12_parse_57 : decode cX12_parse 57 = .ok (.invokevirtual 124, 3) := by decide +kernel
theorem dX12_parse_60 : decode cX12_parse 60 = .ok (.iadd, 1) := by decide +kernel
theorem dX12_parse_61 : decode cX12_parse 61 = .ok (.iastore, 1) := by decide +kernel
theorem dX12_parse_62 : decode cX12_parse 62 = .ok (.iload_n 2, 1) := by decide +kernel
theorem dX12_parse_63 : decode cX12_parse 63 = .ok (.ifCond .le 146, 3) := by decide +kernel
theorem dX12_parse_66 : decode cX12_parse 66 = .ok (.iinc 2 (-1), 3) := by decide +kernel
theorem dX12_parse_69 : decode cX12_parse 69 = .ok (.aload_n 0, 1) := by decide +kernel
theorem dX12_parse_70 : decode cX12_parse 70 = .ok (.getfield 69, 3) := by decide +kernel
theorem dX12_parse_73 : decode cX12_parse 73 = .ok (.iload_n 2, 1) := by decide +kernel
theorem dX12_parse_74 : decode cX12_parse 74 = .ok (.iaload, 1) := by decide +kernel
theorem dX12_parse_75 : decode cX12_parse 75 = .ok (.istore 4, 2) := by decide +kernel
theorem dX12_parse_77 : decode cX12_parse 77 = .ok (.iload 4, 2) := by decide +kernel
theorem dX12_parse_79 : decode cX12_parse 79 = .ok (.bipush 10, 2) := by decide +kernel
theorem dX12_parse_81 : decode cX12_parse 81 = .ok (.if_icmp .ge 33, 3) := by decide +kernel
theorem dX12_parse_84 : decode cX12_parse 84 = .ok (.iload_n 3, 1) := by decide +kernel
theorem dX12_parse_85 : decode cX12_parse 85 = .ok (.aload_n 0, 1) := by decide +kernel
theorem dX12_parse_86 : decode cX12_parse 86 = .ok (.getfield 251, 3) := by decide +kernel
theorem dX12_parse_89 : decode cX12_parse 89 = .ok (.if_icmp .eq 14, 3) := by decide +kernel
theorem dX12_parse_92 : decode cX12_parse 92 = .ok (.aload_n 0, 1) := by decide +kernel
theorem dX12_parse_93 : decode cX12_parse 93 = .ok (.getfield 66, 3) := by decide +kernel
theorem dX12_parse_96 : decode cX12_parse 96 = .ok (.iload_n 3, 1) := by decide +kernel
theorem dX12_parse_97 : decode cX12_parse 97 = .ok (.iaload, 1) := by decide +kernel
theorem dX12_parse_98 : decode cX12_parse 98 = .ok (.iload 4, 2) := by decide +kernel
theorem dX12_parse_100 : decode cX12_parse 100 = .ok (.if_icmp .eq 8, 3) := by decide +kernel
theorem dX12_parse_103 : decode cX12_parse 103 = .ok (.bipush (-10), 2) := by decide +kernel
theorem dX12_parse_105 : decode cX12_parse 105 = .ok (.iload_n 3, 1) := by decide +kernel
theorem dX12_parse_106 : decode cX12_parse 106 = .ok (.isub, 1) := by decide +kernel
theorem dX12_parse_107 : decode cX12_parse 107 = .ok (.ireturn, 1) := by decide +kernel
theorem dX12_parse_108 : decode cX12_parse 108 = .ok (.iinc 3 1, 3) := by decide +kernel
theorem dX12_parse_111 : decode cX12_parse 111 = .ok (.goto 95, 3) := by decide +kernel
theorem dX12_parse_114 : decode cX12_parse 114 = .ok (.aload_n 0, 1) := by decide +kernel
theorem dX12_parse_115 : decode cX12_parse 115 = .ok (.iload 4, 2) := by decide +kernel
theorem dX12_parse_117 : decode cX12_parse 117 = .ok (.bipush 10, 2) := by decide +kernel
theorem dX12_parse_119 : decode cX12_parse 119 = .ok (.isub, 1) := by decide +kernel
theorem dX12_parse_120 : decode cX12_parse 120 = .ok (.iload_n 3, 1) := by decide +kernel
theorem dX12_parse_121 : decode cX12_parse 121 = .ok (.invokevirtual 271, 3) := by decide +kernel
theorem dX12_parse_124 : decode cX12_parse 124 = .ok (.istore 5, 2) := by decide +kernel
theorem dX12_parse_126 : decode cX12_parse 126 = .ok (.iload 5, 2) := by decide +kernel
theorem dX12_parse_128 : decode cX12_parse 128 = .ok (.bipush (-9), 2) := by decide +kernel
theorem dX12_parse_130 : decode cX12_parse 130 = .ok (.if_icmp .eq 12, 3) := by decide +kernel
theorem dX12_parse_133 : decode cX12_parse 133 = .ok (.aload_n 0, 1) := by decide +kernel
theorem dX12_parse_134 : decode cX12_parse 134 = .ok (.getfield 257, 3) := by decide +kernel
theorem dX12_parse_137 : decode cX12_parse 137 = .ok (.bipush 60, 2) := by decide +kernel
theorem dX12_parse_139 : decode cX12_parse 139 = .ok (.if_icmp .ne 8, 3) := by decide +kernel
theorem dX12_parse_142 : decode cX12_parse 142 = .ok (.bipush (-10), 2) := by decide +kernel
theorem dX12_parse_144 : decode cX12_parse 144 = .ok (.iload_n 3, 1) := by decide +kernel
theorem dX12_parse_145 : decode cX12_parse 145 = .ok (.isub, 1) := by decide +kernel
theorem dX12_parse_146 : decode cX12_parse 146 = .ok (.ireturn, 1) := by decide +kernel
theorem dX12_parse_147 : decode cX12_parse 147 = .ok (.aload_n 0, 1) := by decide +kernel
theorem dX12_parse_148 : decode cX12_parse 148 = .ok (.getfield 23, 3) := by decide +kernel
theorem dX12_parse_151 : decode cX12_parse 151 = .ok (.aload_n 0, 1) := by decide +kernel
theorem dX12_parse_152 : decode cX12_parse 152 = .ok (.getfield 257, 3) := by decide +kernel
theorem dX12_parse_155 : decode cX12_parse 155 = .ok (.iload 5, 2) := by decide +kernel
theorem dX12_parse_157 : decode cX12_parse 157 = .ok (.iastore, 1) := by decide +kernel
theorem dX12_parse_158 : decode cX12_parse 158 = .ok (.aload_n 0, 1) := by decide +kernel
theorem dX12_parse_159 : decode cX12_parse 159 = .ok (.dup, 1) := by decide +kernel
theorem dX12_parse_160 : decode cX12_parse 160 = .ok (.getfield 257, 3) := by decide +kernel
theorem dX12_parse_163 : decode cX12_parse 163 = .ok (.iconst 1, 1) := by decide +kernel
theorem dX12_parse_164 : decode cX12_parse 164 = .ok (.iadd, 1) := by decide +kernel
theorem dX12_parse_165 : decode cX12_parse 165 = .ok (.putfield 257, 3) := by decide +kernel
theorem dX12_parse_168 : decode cX12_parse 168 = .ok (.aload_n 0, 1) := by decide +kernel
theorem dX12_parse_169 : decode cX12_parse 169 = .ok (.iload 5, 2) := by decide +kernel
theorem dX12_parse_171 : decode cX12_parse 171 = .ok (.invokevirtual 117, 3) := by decide +kernel
theorem dX12_parse_174 : decode cX12_parse 174 = .ok (.iconst 1, 1) := by decide +kernel
theorem dX12_parse_175 : decode cX12_parse 175 = .ok (.isub, 1) := by decide +kernel
theorem dX12_parse_176 : decode cX12_parse 176 = .ok (.istore 6, 2) := by decide +kernel
theorem dX12_parse_178 : decode cX12_parse 178 = .ok (.iload 6, 2) := by decide +kernel
theorem dX12_parse_180 : decode cX12_parse 180 = .ok (.ifCond .lt 26, 3) := by decide +kernel
theorem dX12_parse_183 : decode cX12_parse 183 = .ok (.aload_n 0, 1) := by decide +kernel
theorem dX12_parse_184 : decode cX12_parse 184 = .ok (.getfield 69, 3) := by decide +kernel
theorem dX12_parse_187 : decode cX12_parse 187 = .ok (.iload_n 2, 1) := by decide +kernel
theorem dX12_parse_188 : decode cX12_parse 188 = .ok (.aload_n 0, 1) := by decide +kernel
theorem dX12_parse_189 : decode cX12_parse 189 = .ok (.iload 5, 2) := by decide +kernel
theorem dX12_parse_191 : decode cX12_parse 191 = .ok (.iload 6, 2) := by decide +kernel
theorem dX12_parse_193 : decode cX12_parse 193 = .ok (.invokevirtual 109, 3) := by decide +kernel
theorem dX12_parse_196 : decode cX12_parse 196 = .ok (.iastore, 1) := by decide +kernel
theorem dX12_parse_197 : decode cX12_parse 197 = .ok (.iinc 2 1, 3) := by decide +kernel
theorem dX12_parse_200 : decode cX12_parse 200 = .ok (.iinc 6 (-1), 3) := by decide +kernel
theorem dX12_parse_203 : decode cX12_parse 203 = .ok (.goto (-25), 3) := by decide +kernel
theorem dX12_parse_206 : decode cX12_parse 206 = .ok (.goto (-144), 3) := by decide +kernel
theorem dX12_parse_209 : decode cX12_parse 209 = .ok (.iload_n 3, 1) := by decide +kernel
theorem dX12_parse_210 : decode cX12_parse 210 = .ok (.aload_n 0, 1) := by decide +kernel
theorem dX12_parse_211 : decode cX12_parse 211 = .ok (.getfield 251, 3) := by decide +kernel
theorem dX12_parse_214 : decode cX12_parse 214 = .ok (.if_icmp .ne 10, 3) := by decide +kernel
theorem dX12_parse_217 : decode cX12_parse 217 = .ok (.aload_n 0, 1) := by decide +kernel
theorem dX12_parse_218 : decode cX12_parse 218 = .ok (.getfield 257, 3) := by decide +kernel
theorem dX12_parse_221 : decode cX12_parse 221 = .ok (.goto 7, 3) := by decide +kernel
theorem dX12_parse_224 : decode cX12_parse 224 = .ok (.bipush (-10), 2) := by decide +kernel
theorem dX12_parse_226 : decode cX12_parse 226 = .ok (.iload_n 3, 1) := by decide +kernel
theorem dX12_parse_227 : decode cX12_parse 227 = .ok (.isub, 1) := by decide +kernel
theorem dX12_parse_228 : decode cX12_parse 228 = .ok (.ireturn, 1) := by decide +kernel
theorem dX12_chosen_0 : decode cX12_chosen 0 = .ok (.iload_n 1, 1) := by decide +kernel
theorem dX12_chosen_1 : decode cX12_chosen 1 = .ok (.ifCond .ge 7, 3) := by decide +kernel
theorem dX12_chosen_4 : decode cX12_chosen 4 = .ok (.iconst (-1), 1) := by decide +kernel
theorem dX12_chosen_5 : decode cX12_chosen 5 = .ok (.goto 22, 3) := by decide +kernel
theorem dX12_chosen_8 : decode cX12_chosen 8 = .ok (.iload_n 1, 1) := by decide +kernel
theorem dX12_chosen_9 : decode cX12_chosen 9 = .ok (.aload_n 0, 1) := by decide +kernel
theorem dX12_chosen_10 : decode cX12_chosen 10 = .ok (.getfield 257, 3) := by decide +kernel
theorem dX12_chosen_13 : decode cX12_chosen 13 = .ok (.if_icmp .ge 12, 3) := by decide +kernel
theorem dX12_chosen_16 : decode cX12_chosen 16 = .ok (.aload_n 0, 1) := by decide +kernel
theorem dX12_chosen_17 : decode cX12_chosen 17 = .ok (.getfield 23, 3) := by decide +kernel
theorem dX12_chosen_20 : decode cX12_chosen 20 = .ok (.iload_n 1, 1) := by decide +kernel
theorem dX12_chosen_21 : decode cX12_chosen 21 = .ok (.iaload, 1) := by decide +kernel
theorem dX12_chosen_22 : decode cX12_chosen 22 = .ok (.goto 5, 3) := by decide +kernel
theorem dX12_chosen_25 : decode cX12_chosen 25 = .ok (.bipush (-9), 2) := by decide +kernel
theorem dX12_chosen_27 : decode cX12_chosen 27 = .ok (.ireturn, 1) := by decide +kernel
theorem dX12_held_0 : decode cX12_held 0 = .ok (.lload_n 0, 1) := by decide +kernel
theorem dX12_held_1 : decode cX12_held 1 = .ok (.ldc2_w 274, 3) := by decide +kernel
theorem dX12_held_4 : decode cX12_held 4 = .ok (.lcmp, 1) := by decide +kernel
theorem dX12_held_5 : decode cX12_held 5 = .ok (.ifCond .le 9, 3) := by decide +kernel
theorem dX12_held_8 : decode cX12_held 8 = .ok (.ldc2_w 274, 3) := by decide +kernel
theorem dX12_held_11 : decode cX12_held 11 = .ok (.goto 4, 3) := by decide +kernel
theorem dX12_held_14 : decode cX12_held 14 = .ok (.lload_n 0, 1) := by decide +kernel
theorem dX12_held_15 : decode cX12_held 15 = .ok (.lreturn, 1) := by decide +kernel
theorem dX12_waysOf_0 : decode cX12_waysOf 0 = .ok (.aload_n 0, 1) := by decide +kernel
theorem dX12_waysOf_1 : decode cX12_waysOf 1 = .ok (.getfield 72, 3) := by decide +kernel
theorem dX12_waysOf_4 : decode cX12_waysOf 4 = .ok (.bipush 81, 2) := by decide +kernel
theorem dX12_waysOf_6 : decode cX12_waysOf 6 = .ok (.iload_n 1, 1) := by decide +kernel
theorem dX12_waysOf_7 : decode cX12_waysOf 7 = .ok (.imul, 1) := by decide +kernel
theorem dX12_waysOf_8 : decode cX12_waysOf 8 = .ok (.bipush 9, 2) := by decide +kernel
theorem dX12_waysOf_10 : decode cX12_waysOf 10 = .ok (.iload_n 2, 1) := by decide +kernel
theorem dX12_waysOf_11 : decode cX12_waysOf 11 = .ok (.imul, 1) := by decide +kernel
theorem dX12_waysOf_12 : decode cX12_waysOf 12 = .ok (.iadd, 1) := by decide +kernel
theorem dX12_waysOf_13 : decode cX12_waysOf 13 = .ok (.iload_n 3, 1) := by decide +kernel
theorem dX12_waysOf_14 : decode cX12_waysOf 14 = .ok (.iadd, 1) := by decide +kernel
theorem dX12_waysOf_15 : decode cX12_waysOf 15 = .ok (.laload, 1) := by decide +kernel
theorem dX12_waysOf_16 : decode cX12_waysOf 16 = .ok (.lreturn, 1) := by decide +kernel
theorem dX12_sideWays_0 : decode cX12_sideWays 0 = .ok (.iload_n 2, 1) := by decide +kernel
theorem dX12_sideWays_1 : decode cX12_sideWays 1 = .ok (.istore 4, 2) := by decide +kernel
theorem dX12_sideWays_3 : decode cX12_sideWays 3 = .ok (.iload 4, 2) := by decide +kernel
theorem dX12_sideWays_5 : decode cX12_sideWays 5 = .ok (.iload_n 3, 1) := by decide +kernel
theorem dX12_sideWays_6 : decode cX12_sideWays 6 = .ok (.if_icmp .gt 27, 3) := by decide +kernel
theorem dX12_sideWays_9 : decode cX12_sideWays 9 = .ok (.aload_n 0, 1) := by decide +kernel
theorem dX12_sideWays_10 : decode cX12_sideWays 10 = .ok (.getfield 76, 3) := by decide +kernel
theorem dX12_sideWays_13 : decode cX12_sideWays 13 = .ok (.iload 4, 2) := by decide +kernel
theorem dX12_sideWays_15 : decode cX12_sideWays 15 = .ok (.iload 4, 2) := by decide +kernel
theorem dX12_sideWays_17 : decode cX12_sideWays 17 = .ok (.iload_n 2, 1) := by decide +kernel
theorem dX12_sideWays_18 : decode cX12_sideWays 18 = .ok (.if_icmp .ne 7, 3) := by decide +kernel
theorem dX12_sideWays_21 : decode cX12_sideWays 21 = .ok (.lconst 1, 1) := by decide +kernel
theorem dX12_sideWays_22 : decode cX12_sideWays 22 = .ok (.goto 4, 3) := by decide +kernel
theorem dX12_sideWays_25 : decode cX12_sideWays 25 = .ok (.lconst 0, 1) := by decide +kernel
theorem dX12_sideWays_26 : decode cX12_sideWays 26 = .ok (.lastore, 1) := by decide +kernel
theorem dX12_sideWays_27 : decode cX12_sideWays 27 = .ok (.iinc 4 1, 3) := by decide +kernel
theorem dX12_sideWays_30 : decode cX12_sideWays 30 = .ok (.goto (-27), 3) := by decide +kernel
theorem dX12_sideWays_33 : decode cX12_sideWays 33 = .ok (.iconst 0, 1) := by decide +kernel
theorem dX12_sideWays_34 : decode cX12_sideWays 34 = .ok (.istore 4, 2) := by decide +kernel
theorem dX12_sideWays_36 : decode cX12_sideWays 36 = .ok (.iload 4, 2) := by decide +kernel
theorem dX12_sideWays_38 : decode cX12_sideWays 38 = .ok (.aload_n 0, 1) := by decide +kernel
theorem dX12_sideWays_39 : decode cX12_sideWays 39 = .ok (.iload_n 1, 1) := by decide +kernel
theorem dX12_sideWays_40 : decode cX12_sideWays 40 = .ok (.invokevirtual 117, 3) := by decide +kernel
theorem dX12_sideWays_43 : decode cX12_sideWays 43 = .ok (.if_icmp .ge 227, 3) := by decide +kernel
theorem dX12_sideWays_46 : decode cX12_sideWays 46 = .ok (.iload_n 2, 1) := by decide +kernel
theorem dX12_sideWays_47 : decode cX12_sideWays 47 = .ok (.istore 5, 2) := by decide +kernel
theorem dX12_sideWays_49 : decode cX12_sideWays 49 = .ok (.iload 5, 2) := by decide +kernel
theorem dX12_sideWays_51 : decode cX12_sideWays 51 = .ok (.iload_n 3, 1) := by decide +kernel
theorem dX12_sideWays_52 : decode cX12_sideWays 52 = .ok (.if_icmp .gt 17, 3) := by decide +kernel
theorem dX12_sideWays_55 : decode cX12_sideWays 55 = .ok (.aload_n 0, 1) := by decide +kernel
theorem dX12_sideWays_56 : decode cX12_sideWays 56 = .ok (.getfield 79, 3) := by decide +kernel
theorem dX12_sideWays_59 : decode cX12_sideWays 59 = .ok (.iload 5, 2) := by decide +kernel
theorem dX12_sideWays_61 : decode cX12_sideWays 61 = .ok (.lconst 0, 1) := by decide +kernel
theorem dX12_sideWays_62 : decode cX12_sideWays 62 = .ok (.lastore, 1) := by decide +kernel
theorem dX12_sideWays_63 : decode cX12_sideWays 63 = .ok (.iinc 5 1, 3) := by decide +kernel
theorem dX12_sideWays_66 : decode cX12_sideWays 66 = .ok (.goto (-17), 3) := by decide +kernel
theorem dX12_sideWays_69 : decode cX12_sideWays 69 = .ok (.iload_n 2, 1) := by decide +kernel
theorem dX12_sideWays_70 : decode cX12_sideWays 70 = .ok (.istore 5, 2) := by decide +kernel
theorem dX12_sideWays_72 : decode cX12_sideWays 72 = .ok (.iload 5, 2) := by decide +kernel
theorem dX12_sideWays_74 : decode cX12_sideWays 74 = .ok (.iload_n 3, 1) := by decide +kernel
theorem dX12_sideWays_75 : decode cX12_sideWays 75 = .ok (.if_icmp .gt 160, 3) := by decide +kernel
theorem dX12_sideWays_78 : decode cX12_sideWays 78 = .ok (.aload_n 0, 1) := by decide +kernel
theorem dX12_sideWays_79 : decode cX12_sideWays 79 = .ok (.getfield 76, 3) := by decide +kernel
theorem dX12_sideWays_82 : decode cX12_sideWays 82 = .ok (.iload 5, 2) := by decide +kernel
theorem dX12_sideWays_84 : decode cX12_sideWays 84 = .ok (.laload, 1) := by decide +kernel
theorem dX12_sideWays_85 : decode cX12_sideWays 85 = .ok (.lconst 0, 1) := by decide +kernel
theorem dX12_sideWays_86 : decode cX12_sideWays 86 = .ok (.lcmp, 1) := by decide +kernel
theorem dX12_sideWays_87 : decode cX12_sideWays 87 = .ok (.ifCond .le 70, 3) := by decide +kernel
theorem dX12_sideWays_90 : decode cX12_sideWays 90 = .ok (.aload_n 0, 1) := by decide +kernel
theorem dX12_sideWays_91 : decode cX12_sideWays 91 = .ok (.iload_n 1, 1) := by decide +kernel
theorem dX12_sideWays_92 : decode cX12_sideWays 92 = .ok (.iload 4, 2) := by decide +kernel
theorem dX12_sideWays_94 : decode cX12_sideWays 94 = .ok (.invokevirtual 109, 3) := by decide +kernel
theorem dX12_sideWays_97 : decode cX12_sideWays 97 = .ok (.bipush 10, 2) := by decide +kernel
theorem dX12_sideWays_99 : decode cX12_sideWays 99 = .ok (.if_icmp .ge 58, 3) := by decide +kernel
theorem dX12_sideWays_102 : decode cX12_sideWays 102 = .ok (.iload 5, 2) := by decide +kernel
theorem dX12_sideWays_104 : decode cX12_sideWays 104 = .ok (.iload_n 3, 1) := by decide +kernel
theorem dX12_sideWays_105 : decode cX12_sideWays 105 = .ok (.if_icmp .ge 124, 3) := by decide +kernel
theorem dX12_sideWays_108 : decode cX12_sideWays 108 = .ok (.aload_n 0, 1) := by decide +kernel
theorem dX12_sideWays_109 : decode cX12_sideWays 109 = .ok (.getfield 66, 3) := by decide +kernel
theorem dX12_sideWays_112 : decode cX12_sideWays 112 = .ok (.iload 5, 2) := by decide +kernel
theorem dX12_sideWays_114 : decode cX12_sideWays 114 = .ok (.iaload, 1) := by decide +kernel
theorem dX12_sideWays_115 : decode cX12_sideWays 115 = .ok (.aload_n 0, 1) := by decide +kernel
theorem dX12_sideWays_116 : decode cX12_sideWays 116 = .ok (.iload_n 1, 1) := by decide +kernel
theorem dX12_sideWays_117 : decode cX12_sideWays 117 = .ok (.iload 4, 2) := by decide +kernel
theorem dX12_sideWays_119 : decode cX12_sideWays 119 = .ok (.invokevirtual 109, 3) := by decide +kernel
theorem dX12_sideWays_122 : decode cX12_sideWays 122 = .ok (.if_icmp .ne 107, 3) := by decide +kernel
theorem dX12_sideWays_125 : decode cX12_sideWays 125 = .ok (.aload_n 0, 1) := by decide +kernel
theorem dX12_sideWays_126 : decode cX12_sideWays 126 = .ok (.getfield 79, 3) := by decide +kernel
theorem dX12_sideWays_129 : decode cX12_sideWays 129 = .ok (.iload 5, 2) := by decide +kernel
theorem dX12_sideWays_131 : decode cX12_sideWays 131 = .ok (.iconst 1, 1) := by decide +kernel
theorem dX12_sideWays_132 : decode cX12_sideWays 132 = .ok (.iadd, 1) := by decide +kernel
theorem dX12_sideWays_133 : decode cX12_sideWays 133 = .ok (.aload_n 0, 1) := by decide +kernel
theorem dX12_sideWays_134 : decode cX12_sideWays 134 = .ok (.getfield 79, 3) := by decide +kernel
theorem dX12_sideWays_137 : decode cX12_sideWays 137 = .ok (.iload 5, 2) := by decide +kernel
theorem dX12_sideWays_139 : decode cX12_sideWays 139 = .ok (.iconst 1, 1) := by decide +kernel
theorem dX12_sideWays_140 : decode cX12_sideWays 140 = .ok (.iadd, 1) := by decide +kernel
theorem dX12_sideWays_141 : decode cX12_sideWays 141 = .ok (.laload, 1) := by decide +kernel
theorem dX12_sideWays_142 : decode cX12_sideWays 142 = .ok (.aload_n 0, 1) := by decide +kernel
theorem dX12_sideWays_143 : decode cX12_sideWays 143 = .ok (.getfield 76, 3) := by decide +kernel
theorem dX12_sideWays_146 : decode cX12_sideWays 146 = .ok (.iload 5, 2) := by decide +kernel
theorem dX12_sideWays_148 : decode cX12_sideWays 148 = .ok (.laload, 1) := by decide +kernel
theorem dX12_sideWays_149 : decode cX12_sideWays 149 = .ok (.ladd, 1) := by decide +kernel
theorem dX12_sideWays_150 : decode cX12_sideWays 150 = .ok (.invokestatic 276, 3) := by decide +kernel
theorem dX12_sideWays_153 : decode cX12_sideWays 153 = .ok (.lastore, 1) := by decide +kernel
theorem dX12_sideWays_154 : decode cX12_sideWays 154 = .ok (.goto 75, 3) := by decide +kernel
theorem dX12_sideWays_157 : decode cX12_sideWays 157 = .ok (.aload_n 0, 1) := by decide +kernel
theorem dX12_sideWays_158 : decode cX12_sideWays 158 = .ok (.getfield 76, 3) := by decide +kernel
theorem dX12_sideWays_161 : decode cX12_sideWays 161 = .ok (.iload 5, 2) := by decide +kernel
theorem dX12_sideWays_163 : decode cX12_sideWays 163 = .ok (.laload, 1) := by decide +kernel
theorem dX12_sideWays_164 : decode cX12_sideWays 164 = .ok (.lconst 0, 1) := by decide +kernel
theorem dX12_sideWays_165 : decode cX12_sideWays 165 = .ok (.lcmp, 1) := by decide +kernel
theorem dX12_sideWays_166 : decode cX12_sideWays 166 = .ok (.ifCond .le 63, 3) := by decide +kernel
theorem dX12_sideWays_169 : decode cX12_sideWays 169 = .ok (.iload 5, 2) := by decide +kernel
theorem dX12_sideWays_171 : decode cX12_sideWays 171 = .ok (.istore 6, 2) := by decide +kernel
theorem dX12_sideWays_173 : decode cX12_sideWays 173 = .ok (.iload 6, 2) := by decide +kernel
theorem dX12_sideWays_175 : decode cX12_sideWays 175 = .ok (.iload_n 3, 1) := by decide +kernel
theorem dX12_sideWays_176 : decode cX12_sideWays 176 = .ok (.if_icmp .gt 53, 3) := by decide +kernel
theorem dX12_sideWays_179 : decode cX12_sideWays 179 = .ok (.aload_n 0, 1) := by decide +kernel
theorem dX12_sideWays_180 : decode cX12_sideWays 180 = .ok (.getfield 79, 3) := by decide +kernel
theorem dX12_sideWays_183 : decode cX12_sideWays 183 = .ok (.iload 6, 2) := by decide +kernel
theorem dX12_sideWays_185 : decode cX12_sideWays 185 = .ok (.aload_n 0, 1) := by decide +kernel
theorem dX12_sideWays_186 : decode cX12_sideWays 186 = .ok (.getfield 79, 3) := by decide +kernel
theorem dX12_sideWays_189 : decode cX12_sideWays 189 = .ok (.iload 6, 2) := by decide +kernel
theorem dX12_sideWays_191 : decode cX12_sideWays 191 = .ok (.laload, 1) := by decide +kernel
theorem dX12_sideWays_192 : decode cX12_sideWays 192 = .ok (.aload_n 0, 1) := by decide +kernel
theorem dX12_sideWays_193 : decode cX12_sideWays 193 = .ok (.getfield 76, 3) := by decide +kernel
theorem dX12_sideWays_196 : decode cX12_sideWays 196 = .ok (.iload 5, 2) := by decide +kernel
theorem dX12_sideWays_198 : decode cX12_sideWays 198 = .ok (.laload, 1) := by decide +kernel
theorem dX12_sideWays_199 : decode cX12_sideWays 199 = .ok (.aload_n 0, 1) := by decide +kernel
theorem dX12_sideWays_200 : decode cX12_sideWays 200 = .ok (.aload_n 0, 1) := by decide +kernel
theorem dX12_sideWays_201 : decode cX12_sideWays 201 = .ok (.iload_n 1, 1) := by decide +kernel
theorem dX12_sideWays_202 : decode cX12_sideWays 202 = .ok (.iload 4, 2) := by decide +kernel
theorem dX12_sideWays_204 : decode cX12_sideWays 204 = .ok (.invokevirtual 109, 3) := by decide +kernel
theorem dX12_sideWays_207 : decode cX12_sideWays 207 = .ok (.bipush 10, 2) := by decide +kernel
theorem dX12_sideWays_209 : decode cX12_sideWays 209 = .ok (.isub, 1) := by decide +kernel
theorem dX12_sideWays_210 : decode cX12_sideWays 210 = .ok (.iload 5, 2) := by decide +kernel
theorem dX12_sideWays_212 : decode cX12_sideWays 212 = .ok (.iload 6, 2) := by decide +kernel
theorem dX12_sideWays_214 : decode cX12_sideWays 214 = .ok (.invokevirtual 280, 3) := by decide +kernel
theorem dX12_sideWays_217 : decode cX12_sideWays 217 = .ok (.lmul, 1) := by decide +kernel
theorem dX12_sideWays_218 : decode cX12_sideWays 218 = .ok (.ladd, 1) := by decide +kernel
theorem dX12_sideWays_219 : decode cX12_sideWays 219 = .ok (.invokestatic 276, 3) := by decide +kernel
theorem dX12_sideWays_222 : decode cX12_sideWays 222 = .ok (.lastore, 1) := by decide +kernel
theorem dX12_sideWays_223 : decode cX12_sideWays 223 = .ok (.iinc 6 1, 3) := by decide +kernel
theorem dX12_sideWays_226 : decode cX12_sideWays 226 = .ok (.goto (-53), 3) := by decide +kernel
theorem dX12_sideWays_229 : decode cX12_sideWays 229 = .ok (.iinc 5 1, 3) := by decide +kernel
theorem dX12_sideWays_232 : decode cX12_sideWays 232 = .ok (.goto (-160), 3) := by decide +kernel
theorem dX12_sideWays_235 : decode cX12_sideWays 235 = .ok (.iload_n 2, 1) := by decide +kernel
theorem dX12_sideWays_236 : decode cX12_sideWays 236 = .ok (.istore 5, 2) := by decide +kernel
theorem dX12_sideWays_238 : decode cX12_sideWays 238 = .ok (.iload 5, 2) := by decide +kernel
theorem dX12_sideWays_240 : decode cX12_sideWays 240 = .ok (.iload_n 3, 1) := by decide +kernel
theorem dX12_sideWays_241 : decode cX12_sideWays 241 = .ok (.if_icmp .gt 23, 3) := by decide +kernel
theorem dX12_sideWays_244 : decode cX12_sideWays 244 = .ok (.aload_n 0, 1) := by decide +kernel
theorem dX12_sideWays_245 : decode cX12_sideWays 245 = .ok (.getfield 76, 3) := by decide +kernel
theorem dX12_sideWays_248 : decode cX12_sideWays 248 = .ok (.iload 5, 2) := by decide +kernel
theorem dX12_sideWays_250 : decode cX12_sideWays 250 = .ok (.aload_n 0, 1) := by decide +kernel
theorem dX12_sideWays_251 : decode cX12_sideWays 251 = .ok (.getfield 79, 3) := by decide +kernel
theorem dX12_sideWays_254 : decode cX12_sideWays 254 = .ok (.iload 5, 2) := by decide +kernel
theorem dX12_sideWays_256 : decode cX12_sideWays 256 = .ok (.laload, 1) := by decide +kernel
theorem dX12_sideWays_257 : decode cX12_sideWays 257 = .ok (.lastore, 1) := by decide +kernel
theorem dX12_sideWays_258 : decode cX12_sideWays 258 = .ok (.iinc 5 1, 3) := by decide +kernel
theorem dX12_sideWays_261 : decode cX12_sideWays 261 = .ok (.goto (-23), 3) := by decide +kernel
theorem dX12_sideWays_264 : decode cX12_sideWays 264 = .ok (.iinc 4 1, 3) := by decide +kernel
theorem dX12_sideWays_267 : decode cX12_sideWays 267 = .ok (.goto (-231), 3) := by decide +kernel
theorem dX12_sideWays_270 : decode cX12_sideWays 270 = .ok (.aload_n 0, 1) := by decide +kernel
theorem dX12_sideWays_271 : decode cX12_sideWays 271 = .ok (.getfield 76, 3) := by decide +kernel
theorem dX12_sideWays_274 : decode cX12_sideWays 274 = .ok (.iload_n 3, 1) := by decide +kernel
theorem dX12_sideWays_275 : decode cX12_sideWays 275 = .ok (.laload, 1) := by decide +kernel
theorem dX12_sideWays_276 : decode cX12_sideWays 276 = .ok (.lreturn, 1) := by decide +kernel
theorem dX12_laysWays_0 : decode cX12_laysWays 0 = .ok (.iconst 0, 1) := by decide +kernel
theorem dX12_laysWays_1 : decode cX12_laysWays 1 = .ok (.istore_n 1, 1) := by decide +kernel
theorem dX12_laysWays_2 : decode cX12_laysWays 2 = .ok (.iload_n 1, 1) := by decide +kernel
theorem dX12_laysWays_3 : decode cX12_laysWays 3 = .ok (.sipush 486, 3) := by decide +kernel
theorem dX12_laysWays_6 : decode cX12_laysWays 6 = .ok (.if_icmp .ge 16, 3) := by decide +kernel
theorem dX12_laysWays_9 : decode cX12_laysWays 9 = .ok (.aload_n 0, 1) := by decide +kernel
theorem dX12_laysWays_10 : decode cX12_laysWays 10 = .ok (.getfield 72, 3) := by decide +kernel
theorem dX12_laysWays_13 : decode cX12_laysWays 13 = .ok (.iload_n 1, 1) := by decide +kernel
theorem dX12_laysWays_14 : decode cX12_laysWays 14 = .ok (.lconst 0, 1) := by decide +kernel
theorem dX12_laysWays_15 : decode cX12_laysWays 15 = .ok (.lastore, 1) := by decide +kernel
theorem dX12_laysWays_16 : decode cX12_laysWays 16 = .ok (.iinc 1 1, 3) := by decide +kernel
theorem dX12_laysWays_19 : decode cX12_laysWays 19 = .ok (.goto (-17), 3) := by decide +kernel
theorem dX12_laysWays_22 : decode cX12_laysWays 22 = .ok (.iconst 0, 1) := by decide +kernel
theorem dX12_laysWays_23 : decode cX12_laysWays 23 = .ok (.istore_n 1, 1) := by decide +kernel
theorem dX12_laysWays_24 : decode cX12_laysWays 24 = .ok (.iload_n 1, 1) := by decide +kernel
theorem dX12_laysWays_25 : decode cX12_laysWays 25 = .ok (.aload_n 0, 1) := by decide +kernel
theorem dX12_laysWays_26 : decode cX12_laysWays 26 = .ok (.getfield 251, 3) := by decide +kernel
theorem dX12_laysWays_29 : decode cX12_laysWays 29 = .ok (.if_icmp .gt 49, 3) := by decide +kernel
theorem dX12_laysWays_32 : decode cX12_laysWays 32 = .ok (.iconst 0, 1) := by decide +kernel
theorem dX12_laysWays_33 : decode cX12_laysWays 33 = .ok (.istore_n 2, 1) := by decide +kernel
theorem dX12_laysWays_34 : decode cX12_laysWays 34 = .ok (.iload_n 2, 1) := by decide +kernel
theorem dX12_laysWays_35 : decode cX12_laysWays 35 = .ok (.iload_n 1, 1) := by decide +kernel
theorem dX12_laysWays_36 : decode cX12_laysWays 36 = .ok (.iadd, 1) := by decide +kernel
theorem dX12_laysWays_37 : decode cX12_laysWays 37 = .ok (.aload_n 0, 1) := by decide +kernel
theorem dX12_laysWays_38 : decode cX12_laysWays 38 = .ok (.getfield 251, 3) := by decide +kernel
theorem dX12_laysWays_41 : decode cX12_laysWays 41 = .ok (.if_icmp .gt 31, 3) := by decide +kernel
theorem dX12_laysWays_44 : decode cX12_laysWays 44 = .ok (.iconst 0, 1) := by decide +kernel
theorem dX12_laysWays_45 : decode cX12_laysWays 45 = .ok (.istore_n 3, 1) := by decide +kernel
theorem dX12_laysWays_46 : decode cX12_laysWays 46 = .ok (.iload_n 3, 1) := by decide +kernel
theorem dX12_laysWays_47 : decode cX12_laysWays 47 = .ok (.bipush 6, 2) := by decide +kernel
theorem dX12_laysWays_49 : decode cX12_laysWays 49 = .ok (.if_icmp .gt 17, 3) := by decide +kernel
theorem dX12_laysWays_52 : decode cX12_laysWays 52 = .ok (.aload_n 0, 1) := by decide +kernel
theorem dX12_laysWays_53 : decode cX12_laysWays 53 = .ok (.iload_n 2, 1) := by decide +kernel
theorem dX12_laysWays_54 : decode cX12_laysWays 54 = .ok (.iload_n 2, 1) := by decide +kernel
theorem dX12_laysWays_55 : decode cX12_laysWays 55 = .ok (.iload_n 1, 1) := by decide +kernel
theorem dX12_laysWays_56 : decode cX12_laysWays 56 = .ok (.iadd, 1) := by decide +kernel
theorem dX12_laysWays_57 : decode cX12_laysWays 57 = .ok (.invokevirtual 284, 3) := by decide +kernel
theorem dX12_laysWays_60 : decode cX12_laysWays 60 = .ok (.iinc 3 1, 3) := by decide +kernel
theorem dX12_laysWays_63 : decode cX12_laysWays 63 = .ok (.goto (-17), 3) := by decide +kernel
theorem dX12_laysWays_66 : decode cX12_laysWays 66 = .ok (.iinc 2 1, 3) := by decide +kernel
theorem dX12_laysWays_69 : decode cX12_laysWays 69 = .ok (.goto (-35), 3) := by decide +kernel
theorem dX12_laysWays_72 : decode cX12_laysWays 72 = .ok (.iinc 1 1, 3) := by decide +kernel
theorem dX12_laysWays_75 : decode cX12_laysWays 75 = .ok (.goto (-51), 3) := by decide +kernel
theorem dX12_laysWays_78 : decode cX12_laysWays 78 = .ok (.return_, 1) := by decide +kernel
theorem dX12_weighs_0 : decode cX12_weighs 0 = .ok (.iconst 0, 1) := by decide +kernel
theorem dX12_weighs_1 : decode cX12_weighs 1 = .ok (.istore_n 3, 1) := by decide +kernel
theorem dX12_weighs_2 : decode cX12_weighs 2 = .ok (.iload_n 3, 1) := by decide +kernel
theorem dX12_weighs_3 : decode cX12_weighs 3 = .ok (.bipush 6, 2) := by decide +kernel
theorem dX12_weighs_5 : decode cX12_weighs 5 = .ok (.if_icmp .ge 16, 3) := by decide +kernel
theorem dX12_weighs_8 : decode cX12_weighs 8 = .ok (.aload_n 0, 1) := by decide +kernel
theorem dX12_weighs_9 : decode cX12_weighs 9 = .ok (.getfield 82, 3) := by decide +kernel
theorem dX12_weighs_12 : decode cX12_weighs 12 = .ok (.iload_n 3, 1) := by decide +kernel
theorem dX12_weighs_13 : decode cX12_weighs 13 = .ok (.lconst 0, 1) := by decide +kernel
theorem dX12_weighs_14 : decode cX12_weighs 14 = .ok (.lastore, 1) := by decide +kernel
theorem dX12_weighs_15 : decode cX12_weighs 15 = .ok (.iinc 3 1, 3) := by decide +kernel
theorem dX12_weighs_18 : decode cX12_weighs 18 = .ok (.goto (-16), 3) := by decide +kernel
theorem dX12_weighs_21 : decode cX12_weighs 21 = .ok (.iconst 0, 1) := by decide +kernel
theorem dX12_weighs_22 : decode cX12_weighs 22 = .ok (.istore_n 3, 1) := by decide +kernel
theorem dX12_weighs_23 : decode cX12_weighs 23 = .ok (.iload_n 3, 1) := by decide +kernel
theorem dX12_weighs_24 : decode cX12_weighs 24 = .ok (.aload_n 0, 1) := by decide +kernel
theorem dX12_weighs_25 : decode cX12_weighs 25 = .ok (.invokevirtual 94, 3) := by decide +kernel
theorem dX12_weighs_28 : decode cX12_weighs 28 = .ok (.if_icmp .ge 53, 3) := by decide +kernel
theorem dX12_weighs_31 : decode cX12_weighs 31 = .ok (.aload_n 0, 1) := by decide +kernel
theorem dX12_weighs_32 : decode cX12_weighs 32 = .ok (.getfield 33, 3) := by decide +kernel
theorem dX12_weighs_35 : decode cX12_weighs 35 = .ok (.aload_n 0, 1) := by decide +kernel
theorem dX12_weighs_36 : decode cX12_weighs 36 = .ok (.iload_n 3, 1) := by decide +kernel
theorem dX12_weighs_37 : decode cX12_weighs 37 = .ok (.invokevirtual 102, 3) := by decide +kernel
theorem dX12_weighs_40 : decode cX12_weighs 40 = .ok (.baload, 1) := by decide +kernel
theorem dX12_weighs_41 : decode cX12_weighs 41 = .ok (.ifCond .eq 34, 3) := by decide +kernel
theorem dX12_weighs_44 : decode cX12_weighs 44 = .ok (.aload_n 0, 1) := by decide +kernel
theorem dX12_weighs_45 : decode cX12_weighs 45 = .ok (.getfield 82, 3) := by decide +kernel
theorem dX12_weighs_48 : decode cX12_weighs 48 = .ok (.aload_n 0, 1) := by decide +kernel
theorem dX12_weighs_49 : decode cX12_weighs 49 = .ok (.iload_n 3, 1) := by decide +kernel
theorem dX12_weighs_50 : decode cX12_weighs 50 = .ok (.invokevirtual 102, 3) := by decide +kernel
theorem dX12_weighs_53 : decode cX12_weighs 53 = .ok (.aload_n 0, 1) := by decide +kernel
theorem dX12_weighs_54 : decode cX12_weighs 54 = .ok (.getfield 82, 3) := by decide +kernel
theorem dX12_weighs_57 : decode cX12_weighs 57 = .ok (.aload_n 0, 1) := by decide +kernel
theorem dX12_weighs_58 : decode cX12_weighs 58 = .ok (.iload_n 3, 1) := by decide +kernel
theorem dX12_weighs_59 : decode cX12_weighs 59 = .ok (.invokevirtual 102, 3) := by decide +kernel
theorem dX12_weighs_62 : decode cX12_weighs 62 = .ok (.laload, 1) := by decide +kernel
theorem dX12_weighs_63 : decode cX12_weighs 63 = .ok (.aload_n 0, 1) := by decide +kernel
theorem dX12_weighs_64 : decode cX12_weighs 64 = .ok (.iload_n 3, 1) := by decide +kernel
theorem dX12_weighs_65 : decode cX12_weighs 65 = .ok (.iload_n 1, 1) := by decide +kernel
theorem dX12_weighs_66 : decode cX12_weighs 66 = .ok (.iload_n 2, 1) := by decide +kernel
theorem dX12_weighs_67 : decode cX12_weighs 67 = .ok (.invokevirtual 287, 3) := by decide +kernel
theorem dX12_weighs_70 : decode cX12_weighs 70 = .ok (.ladd, 1) := by decide +kernel
theorem dX12_weighs_71 : decode cX12_weighs 71 = .ok (.invokestatic 276, 3) := by decide +kernel
theorem dX12_weighs_74 : decode cX12_weighs 74 = .ok (.lastore, 1) := by decide +kernel
theorem dX12_weighs_75 : decode cX12_weighs 75 = .ok (.iinc 3 1, 3) := by decide +kernel
theorem dX12_weighs_78 : decode cX12_weighs 78 = .ok (.goto (-55), 3) := by decide +kernel
theorem dX12_weighs_81 : decode cX12_weighs 81 = .ok (.iconst 0, 1) := by decide +kernel
theorem dX12_weighs_82 : decode cX12_weighs 82 = .ok (.istore_n 3, 1) := by decide +kernel
theorem dX12_weighs_83 : decode cX12_weighs 83 = .ok (.iload_n 3, 1) := by decide +kernel
theorem dX12_weighs_84 : decode cX12_weighs 84 = .ok (.bipush 6, 2) := by decide +kernel
theorem dX12_weighs_86 : decode cX12_weighs 86 = .ok (.if_icmp .ge 31, 3) := by decide +kernel
theorem dX12_weighs_89 : decode cX12_weighs 89 = .ok (.aload_n 0, 1) := by decide +kernel
theorem dX12_weighs_90 : decode cX12_weighs 90 = .ok (.getfield 72, 3) := by decide +kernel
theorem dX12_weighs_93 : decode cX12_weighs 93 = .ok (.bipush 81, 2) := by decide +kernel
theorem dX12_weighs_95 : decode cX12_weighs 95 = .ok (.iload_n 3, 1) := by decide +kernel
theorem dX12_weighs_96 : decode cX12_weighs 96 = .ok (.imul, 1) := by decide +kernel
theorem dX12_weighs_97 : decode cX12_weighs 97 = .ok (.bipush 9, 2) := by decide +kernel
theorem dX12_weighs_99 : decode cX12_weighs 99 = .ok (.iload_n 1, 1) := by decide +kernel
theorem dX12_weighs_100 : decode cX12_weighs 100 = .ok (.imul, 1) := by decide +kernel
theorem dX12_weighs_101 : decode cX12_weighs 101 = .ok (.iadd, 1) := by decide +kernel
theorem dX12_weighs_102 : decode cX12_weighs 102 = .ok (.iload_n 2, 1) := by decide +kernel
theorem dX12_weighs_103 : decode cX12_weighs 103 = .ok (.iadd, 1) := by decide +kernel
theorem dX12_weighs_104 : decode cX12_weighs 104 = .ok (.aload_n 0, 1) := by decide +kernel
theorem dX12_weighs_105 : decode cX12_weighs 105 = .ok (.getfield 82, 3) := by decide +kernel
theorem dX12_weighs_108 : decode cX12_weighs 108 = .ok (.iload_n 3, 1) := by decide +kernel
theorem dX12_weighs_109 : decode cX12_weighs 109 = .ok (.laload, 1) := by decide +kernel
theorem dX12_weighs_110 : decode cX12_weighs 110 = .ok (.lastore, 1) := by decide +kernel
theorem dX12_weighs_111 : decode cX12_weighs 111 = .ok (.iinc 3 1, 3) := by decide +kernel
theorem dX12_weighs_114 : decode cX12_weighs 114 = .ok (.goto (-31), 3) := by decide +kernel
theorem dX12_weighs_117 : decode cX12_weighs 117 = .ok (.return_, 1) := by decide +kernel
theorem dX12_derivations_0 : decode cX12_derivations 0 = .ok (.aload_n 0, 1) := by decide +kernel
theorem dX12_derivations_1 : decode cX12_derivations 1 = .ok (.aload_n 0, 1) := by decide +kernel
theorem dX12_derivations_2 : decode cX12_derivations 2 = .ok (.getfield 39, 3) := by decide +kernel
theorem dX12_derivations_5 : decode cX12_derivations 5 = .ok (.invokevirtual 264, 3) := by decide +kernel
theorem dX12_derivations_8 : decode cX12_derivations 8 = .ok (.ifCond .eq 6, 3) := by decide +kernel
theorem dX12_derivations_11 : decode cX12_derivations 11 = .ok (.bipush (-2), 2) := by decide +kernel
theorem dX12_derivations_13 : decode cX12_derivations 13 = .ok (.ireturn, 1) := by decide +kernel
theorem dX12_derivations_14 : decode cX12_derivations 14 = .ok (.aload_n 0, 1) := by decide +kernel
theorem dX12_derivations_15 : decode cX12_derivations 15 = .ok (.invokevirtual 268, 3) := by decide +kernel
theorem dX12_derivations_18 : decode cX12_derivations 18 = .ok (.istore_n 1, 1) := by decide +kernel
theorem dX12_derivations_19 : decode cX12_derivations 19 = .ok (.iload_n 1, 1) := by decide +kernel
theorem dX12_derivations_20 : decode cX12_derivations 20 = .ok (.bipush (-9), 2) := by decide +kernel
theorem dX12_derivations_22 : decode cX12_derivations 22 = .ok (.if_icmp .eq 8, 3) := by decide +kernel
theorem dX12_derivations_25 : decode cX12_derivations 25 = .ok (.bipush (-100), 2) := by decide +kernel
theorem dX12_derivations_27 : decode cX12_derivations 27 = .ok (.iload_n 1, 1) := by decide +kernel
theorem dX12_derivations_28 : decode cX12_derivations 28 = .ok (.isub, 1) := by decide +kernel
theorem dX12_derivations_29 : decode cX12_derivations 29 = .ok (.ireturn, 1) := by decide +kernel
theorem dX12_derivations_30 : decode cX12_derivations 30 = .ok (.aload_n 0, 1) := by decide +kernel
theorem dX12_derivations_31 : decode cX12_derivations 31 = .ok (.invokevirtual 290, 3) := by decide +kernel
theorem dX12_derivations_34 : decode cX12_derivations 34 = .ok (.aload_n 0, 1) := by decide +kernel
theorem dX12_derivations_35 : decode cX12_derivations 35 = .ok (.aload_n 0, 1) := by decide +kernel
theorem dX12_derivations_36 : decode cX12_derivations 36 = .ok (.invokevirtual 124, 3) := by decide +kernel
theorem dX12_derivations_39 : decode cX12_derivations 39 = .ok (.iconst 0, 1) := by decide +kernel
theorem dX12_derivations_40 : decode cX12_derivations 40 = .ok (.aload_n 0, 1) := by decide +kernel
theorem dX12_derivations_41 : decode cX12_derivations 41 = .ok (.getfield 251, 3) := by decide +kernel
theorem dX12_derivations_44 : decode cX12_derivations 44 = .ok (.invokevirtual 280, 3) := by decide +kernel
theorem dX12_derivations_47 : decode cX12_derivations 47 = .ok (.l2i, 1) := by decide +kernel
theorem dX12_derivations_48 : decode cX12_derivations 48 = .ok (.ireturn, 1) := by decide +kernel
theorem dX12_puts_0 : decode cX12_puts 0 = .ok (.aload_n 0, 1) := by decide +kernel
theorem dX12_puts_1 : decode cX12_puts 1 = .ok (.getfield 85, 3) := by decide +kernel
theorem dX12_puts_4 : decode cX12_puts 4 = .ok (.iload_n 1, 1) := by decide +kernel
theorem dX12_puts_5 : decode cX12_puts 5 = .ok (.iload_n 2, 1) := by decide +kernel
theorem dX12_puts_6 : decode cX12_puts 6 = .ok (.iastore, 1) := by decide +kernel
theorem dX12_puts_7 : decode cX12_puts 7 = .ok (.iconst 0, 1) := by decide +kernel
theorem dX12_puts_8 : decode cX12_puts 8 = .ok (.istore_n 3, 1) := by decide +kernel
theorem dX12_puts_9 : decode cX12_puts 9 = .ok (.iload_n 3, 1) := by decide +kernel
theorem dX12_puts_10 : decode cX12_puts 10 = .ok (.aload_n 0, 1) := by decide +kernel
theorem dX12_puts_11 : decode cX12_puts 11 = .ok (.getfield 251, 3) := by decide +kernel
theorem dX12_puts_14 : decode cX12_puts 14 = .ok (.if_icmp .gt 124, 3) := by decide +kernel
theorem dX12_puts_17 : decode cX12_puts 17 = .ok (.lconst 0, 1) := by decide +kernel
theorem dX12_puts_18 : decode cX12_puts 18 = .ok (.lstore 4, 2) := by decide +kernel
theorem dX12_puts_20 : decode cX12_puts 20 = .ok (.iload_n 2, 1) := by decide +kernel
theorem dX12_puts_21 : decode cX12_puts 21 = .ok (.bipush 10, 2) := by decide +kernel
theorem dX12_puts_23 : decode cX12_puts 23 = .ok (.if_icmp .ge 43, 3) := by decide +kernel
theorem dX12_puts_26 : decode cX12_puts 26 = .ok (.iload_n 3, 1) := by decide +kernel
theorem dX12_puts_27 : decode cX12_puts 27 = .ok (.aload_n 0, 1) := by decide +kernel
theorem dX12_puts_28 : decode cX12_puts 28 = .ok (.getfield 251, 3) := by decide +kernel
theorem dX12_puts_31 : decode cX12_puts 31 = .ok (.if_icmp .ge 29, 3) := by decide +kernel
theorem dX12_puts_34 : decode cX12_puts 34 = .ok (.aload_n 0, 1) := by decide +kernel
theorem dX12_puts_35 : decode cX12_puts 35 = .ok (.getfield 66, 3) := by decide +kernel
theorem dX12_puts_38 : decode cX12_puts 38 = .ok (.iload_n 3, 1) := by decide +kernel
theorem dX12_puts_39 : decode cX12_puts 39 = .ok (.iaload, 1) := by decide +kernel
theorem dX12_puts_40 : decode cX12_puts 40 = .ok (.iload_n 2, 1) := by decide +kernel
theorem dX12_puts_41 : decode cX12_puts 41 = .ok (.if_icmp .ne 19, 3) := by decide +kernel
theorem dX12_puts_44 : decode cX12_puts 44 = .ok (.aload_n 0, 1) := by decide +kernel
theorem dX12_puts_45 : decode cX12_puts 45 = .ok (.getfield 88, 3) := by decide +kernel
theorem dX12_puts_48 : decode cX12_puts 48 = .ok (.bipush 9, 2) := by decide +kernel
theorem dX12_puts_50 : decode cX12_puts 50 = .ok (.iload_n 1, 1) := by decide +kernel
theorem dX12_puts_51 : decode cX12_puts 51 = .ok (.imul, 1) := by decide +kernel
theorem dX12_puts_52 : decode cX12_puts 52 = .ok (.iload_n 3, 1) := by decide +kernel
theorem dX12_puts_53 : decode cX12_puts 53 = .ok (.iadd, 1) := by decide +kernel
theorem dX12_puts_54 : decode cX12_puts 54 = .ok (.iconst 1, 1) := by decide +kernel
theorem dX12_puts_55 : decode cX12_puts 55 = .ok (.iadd, 1) := by decide +kernel
theorem dX12_puts_56 : decode cX12_puts 56 = .ok (.laload, 1) := by decide +kernel
theorem dX12_puts_57 : decode cX12_puts 57 = .ok (.goto 4, 3) := by decide +kernel
theorem dX12_puts_60 : decode cX12_puts 60 = .ok (.lconst 0, 1) := by decide +kernel
theorem dX12_puts_61 : decode cX12_puts 61 = .ok (.lstore 4, 2) := by decide +kernel
theorem dX12_puts_63 : decode cX12_puts 63 = .ok (.goto 53, 3) := by decide +kernel
theorem dX12_puts_66 : decode cX12_puts 66 = .ok (.iload_n 3, 1) := by decide +kernel
theorem dX12_puts_67 : decode cX12_puts 67 = .ok (.istore 6, 2) := by decide +kernel
theorem dX12_puts_69 : decode cX12_puts 69 = .ok (.iload 6, 2) := by decide +kernel
theorem dX12_puts_71 : decode cX12_puts 71 = .ok (.aload_n 0, 1) := by decide +kernel
theorem dX12_puts_72 : decode cX12_puts 72 = .ok (.getfield 251, 3) := by decide +kernel
theorem dX12_puts_75 : decode cX12_puts 75 = .ok (.if_icmp .gt 41, 3) := by decide +kernel
theorem dX12_puts_78 : decode cX12_puts 78 = .ok (.lload 4, 2) := by decide +kernel
theorem dX12_puts_80 : decode cX12_puts 80 = .ok (.aload_n 0, 1) := by decide +kernel
theorem dX12_puts_81 : decode cX12_puts 81 = .ok (.iload_n 2, 1) := by decide +kernel
theorem dX12_puts_82 : decode cX12_puts 82 = .ok (.bipush 10, 2) := by decide +kernel
theorem dX12_puts_84 : decode cX12_puts 84 = .ok (.isub, 1) := by decide +kernel
theorem dX12_puts_85 : decode cX12_puts 85 = .ok (.iload_n 3, 1) := by decide +kernel
theorem dX12_puts_86 : decode cX12_puts 86 = .ok (.iload 6, 2) := by decide +kernel
theorem dX12_puts_88 : decode cX12_puts 88 = .ok (.invokevirtual 280, 3) := by decide +kernel
theorem dX12_puts_91 : decode cX12_puts 91 = .ok (.aload_n 0, 1) := by decide +kernel
theorem dX12_puts_92 : decode cX12_puts 92 = .ok (.getfield 88, 3) := by decide +kernel
theorem dX12_puts_95 : decode cX12_puts 95 = .ok (.bipush 9, 2) := by decide +kernel
theorem dX12_puts_97 : decode cX12_puts 97 = .ok (.iload_n 1, 1) := by decide +kernel
theorem dX12_puts_98 : decode cX12_puts 98 = .ok (.imul, 1) := by decide +kernel
theorem dX12_puts_99 : decode cX12_puts 99 = .ok (.iload 6, 2) := by decide +kernel
theorem dX12_puts_101 : decode cX12_puts 101 = .ok (.iadd, 1) := by decide +kernel
theorem dX12_puts_102 : decode cX12_puts 102 = .ok (.laload, 1) := by decide +kernel
theorem dX12_puts_103 : decode cX12_puts 103 = .ok (.lmul, 1) := by decide +kernel
theorem dX12_puts_104 : decode cX12_puts 104 = .ok (.ladd, 1) := by decide +kernel
theorem dX12_puts_105 : decode cX12_puts 105 = .ok (.invokestatic 276, 3) := by decide +kernel
theorem dX12_puts_108 : decode cX12_puts 108 = .ok (.lstore 4, 2) := by decide +kernel
theorem dX12_puts_110 : decode cX12_puts 110 = .ok (.iinc 6 1, 3) := by decide +kernel
theorem dX12_puts_113 : decode cX12_puts 113 = .ok (.goto (-44), 3) := by decide +kernel
theorem dX12_puts_116 : decode cX12_puts 116 = .ok (.aload_n 0, 1) := by decide +kernel
theorem dX12_puts_117 : decode cX12_puts 117 = .ok (.getfield 88, 3) := by decide +kernel
theorem dX12_puts_120 : decode cX12_puts 120 = .ok (.bipush 9, 2) := by decide +kernel
theorem dX12_puts_122 : decode cX12_puts 122 = .ok (.iload_n 1, 1) := by decide +kernel
theorem dX12_puts_123 : decode cX12_puts 123 = .ok (.imul, 1) := by decide +kernel
theorem dX12_puts_124 : decode cX12_puts 124 = .ok (.bipush 9, 2) := by decide +kernel
theorem dX12_puts_126 : decode cX12_puts 126 = .ok (.iadd, 1) := by decide +kernel
theorem dX12_puts_127 : decode cX12_puts 127 = .ok (.iload_n 3, 1) := by decide +kernel
theorem dX12_puts_128 : decode cX12_puts 128 = .ok (.iadd, 1) := by decide +kernel
theorem dX12_puts_129 : decode cX12_puts 129 = .ok (.lload 4, 2) := by decide +kernel
theorem dX12_puts_131 : decode cX12_puts 131 = .ok (.lastore, 1) := by decide +kernel
theorem dX12_puts_132 : decode cX12_puts 132 = .ok (.iinc 3 1, 3) := by decide +kernel
theorem dX12_puts_135 : decode cX12_puts 135 = .ok (.goto (-126), 3) := by decide +kernel
theorem dX12_puts_138 : decode cX12_puts 138 = .ok (.return_, 1) := by decide +kernel
theorem dX12_putsSide_0 : decode cX12_putsSide 0 = .ok (.aload_n 0, 1) := by decide +kernel
theorem dX12_putsSide_1 : decode cX12_putsSide 1 = .ok (.iload_n 2, 1) := by decide +kernel
theorem dX12_putsSide_2 : decode cX12_putsSide 2 = .ok (.invokevirtual 117, 3) := by decide +kernel
theorem dX12_putsSide_5 : decode cX12_putsSide 5 = .ok (.iconst 1, 1) := by decide +kernel
theorem dX12_putsSide_6 : decode cX12_putsSide 6 = .ok (.isub, 1) := by decide +kernel
theorem dX12_putsSide_7 : decode cX12_putsSide 7 = .ok (.istore_n 3, 1) := by decide +kernel
theorem dX12_putsSide_8 : decode cX12_putsSide 8 = .ok (.iload_n 3, 1) := by decide +kernel
theorem dX12_putsSide_9 : decode cX12_putsSide 9 = .ok (.ifCond .lt 30, 3) := by decide +kernel
theorem dX12_putsSide_12 : decode cX12_putsSide 12 = .ok (.aload_n 0, 1) := by decide +kernel
theorem dX12_putsSide_13 : decode cX12_putsSide 13 = .ok (.iload_n 1, 1) := by decide +kernel
theorem dX12_putsSide_14 : decode cX12_putsSide 14 = .ok (.aload_n 0, 1) := by decide +kernel
theorem dX12_putsSide_15 : decode cX12_putsSide 15 = .ok (.iload_n 2, 1) := by decide +kernel
theorem dX12_putsSide_16 : decode cX12_putsSide 16 = .ok (.invokevirtual 117, 3) := by decide +kernel
theorem dX12_putsSide_19 : decode cX12_putsSide 19 = .ok (.iadd, 1) := by decide +kernel
theorem dX12_putsSide_20 : decode cX12_putsSide 20 = .ok (.iconst 1, 1) := by decide +kernel
theorem dX12_putsSide_21 : decode cX12_putsSide 21 = .ok (.isub, 1) := by decide +kernel
theorem dX12_putsSide_22 : decode cX12_putsSide 22 = .ok (.iload_n 3, 1) := by decide +kernel
theorem dX12_putsSide_23 : decode cX12_putsSide 23 = .ok (.isub, 1) := by decide +kernel
theorem dX12_putsSide_24 : decode cX12_putsSide 24 = .ok (.aload_n 0, 1) := by decide +kernel
theorem dX12_putsSide_25 : decode cX12_putsSide 25 = .ok (.iload_n 2, 1) := by decide +kernel
theorem dX12_putsSide_26 : decode cX12_putsSide 26 = .ok (.iload_n 3, 1) := by decide +kernel
theorem dX12_putsSide_27 : decode cX12_putsSide 27 = .ok (.invokevirtual 109, 3) := by decide +kernel
theorem dX12_putsSide_30 : decode cX12_putsSide 30 = .ok (.invokevirtual 293, 3) := by decide +kernel
theorem dX12_putsSide_33 : decode cX12_putsSide 33 = .ok (.iinc 3 (-1), 3) := by decide +kernel
theorem dX12_putsSide_36 : decode cX12_putsSide 36 = .ok (.goto (-28), 3) := by decide +kernel
theorem dX12_putsSide_39 : decode cX12_putsSide 39 = .ok (.return_, 1) := by decide +kernel
theorem dX12_stepOf_0 : decode cX12_stepOf 0 = .ok (.lload_n 1, 1) := by decide +kernel
theorem dX12_stepOf_1 : decode cX12_stepOf 1 = .ok (.lstore 4, 2) := by decide +kernel
theorem dX12_stepOf_3 : decode cX12_stepOf 3 = .ok (.iconst 0, 1) := by decide +kernel
theorem dX12_stepOf_4 : decode cX12_stepOf 4 = .ok (.istore 6, 2) := by decide +kernel
theorem dX12_stepOf_6 : decode cX12_stepOf 6 = .ok (.iconst 1, 1) := by decide +kernel
theorem dX12_stepOf_7 : decode cX12_stepOf 7 = .ok (.istore 7, 2) := by decide +kernel
theorem dX12_stepOf_9 : decode cX12_stepOf 9 = .ok (.iconst 0, 1) := by decide +kernel
theorem dX12_stepOf_10 : decode cX12_stepOf 10 = .ok (.istore 8, 2) := by decide +kernel
theorem dX12_stepOf_12 : decode cX12_stepOf 12 = .ok (.iconst 0, 1) := by decide +kernel
theorem dX12_stepOf_13 : decode cX12_stepOf 13 = .ok (.istore 9, 2) := by decide +kernel
theorem dX12_stepOf_15 : decode cX12_stepOf 15 = .ok (.iload 9, 2) := by decide +kernel
theorem dX12_stepOf_17 : decode cX12_stepOf 17 = .ok (.aload_n 0, 1) := by decide +kernel
theorem dX12_stepOf_18 : decode cX12_stepOf 18 = .ok (.getfield 251, 3) := by decide +kernel
theorem dX12_stepOf_21 : decode cX12_stepOf 21 = .ok (.if_icmp .gt 30, 3) := by decide +kernel
theorem dX12_stepOf_24 : decode cX12_stepOf 24 = .ok (.aload_n 0, 1) := by decide +kernel
theorem dX12_stepOf_25 : decode cX12_stepOf 25 = .ok (.getfield 88, 3) := by decide +kernel
theorem dX12_stepOf_28 : decode cX12_stepOf 28 = .ok (.iload 9, 2) := by decide +kernel
theorem dX12_stepOf_30 : decode cX12_stepOf 30 = .ok (.iload 9, 2) := by decide +kernel
theorem dX12_stepOf_32 : decode cX12_stepOf 32 = .ok (.aload_n 0, 1) := by decide +kernel
theorem dX12_stepOf_33 : decode cX12_stepOf 33 = .ok (.getfield 251, 3) := by decide +kernel
theorem dX12_stepOf_36 : decode cX12_stepOf 36 = .ok (.if_icmp .ne 7, 3) := by decide +kernel
theorem dX12_stepOf_39 : decode cX12_stepOf 39 = .ok (.lconst 1, 1) := by decide +kernel
theorem dX12_stepOf_40 : decode cX12_stepOf 40 = .ok (.goto 4, 3) := by decide +kernel
theorem dX12_stepOf_43 : decode cX12_stepOf 43 = .ok (.lconst 0, 1) := by decide +kernel
theorem dX12_stepOf_44 : decode cX12_stepOf 44 = .ok (.lastore, 1) := by decide +kernel
theorem dX12_stepOf_45 : decode cX12_stepOf 45 = .ok (.iinc 9 1, 3) := by decide +kernel
theorem dX12_stepOf_48 : decode cX12_stepOf 48 = .ok (.goto (-33), 3) := by decide +kernel
theorem dX12_stepOf_51 : decode cX12_stepOf 51 = .ok (.aload_n 0, 1) := by decide +kernel
theorem dX12_stepOf_52 : decode cX12_stepOf 52 = .ok (.iconst 0, 1) := by decide +kernel
theorem dX12_stepOf_53 : decode cX12_stepOf 53 = .ok (.bipush 10, 2) := by decide +kernel
theorem dX12_stepOf_55 : decode cX12_stepOf 55 = .ok (.aload_n 0, 1) := by decide +kernel
theorem dX12_stepOf_56 : decode cX12_stepOf 56 = .ok (.invokevirtual 124, 3) := by decide +kernel
theorem dX12_stepOf_59 : decode cX12_stepOf 59 = .ok (.iadd, 1) := by decide +kernel
theorem dX12_stepOf_60 : decode cX12_stepOf 60 = .ok (.invokevirtual 293, 3) := by decide +kernel
theorem dX12_stepOf_63 : decode cX12_stepOf 63 = .ok (.iload 7, 2) := by decide +kernel
theorem dX12_stepOf_65 : decode cX12_stepOf 65 = .ok (.ifCond .le 168, 3) := by decide +kernel
theorem dX12_stepOf_68 : decode cX12_stepOf 68 = .ok (.iinc 7 (-1), 3) := by decide +kernel
theorem dX12_stepOf_71 : decode cX12_stepOf 71 = .ok (.aload_n 0, 1) := by decide +kernel
theorem dX12_stepOf_72 : decode cX12_stepOf 72 = .ok (.getfield 85, 3) := by decide +kernel
theorem dX12_stepOf_75 : decode cX12_stepOf 75 = .ok (.iload 7, 2) := by decide +kernel
theorem dX12_stepOf_77 : decode cX12_stepOf 77 = .ok (.iaload, 1) := by decide +kernel
theorem dX12_stepOf_78 : decode cX12_stepOf 78 = .ok (.bipush 10, 2) := by decide +kernel
theorem dX12_stepOf_80 : decode cX12_stepOf 80 = .ok (.if_icmp .ge 9, 3) := by decide +kernel
theorem dX12_stepOf_83 : decode cX12_stepOf 83 = .ok (.iinc 6 1, 3) := by decide +kernel
theorem dX12_stepOf_86 : decode cX12_stepOf 86 = .ok (.goto (-23), 3) := by decide +kernel
theorem dX12_stepOf_89 : decode cX12_stepOf 89 = .ok (.aload_n 0, 1) := by decide +kernel
theorem dX12_stepOf_90 : decode cX12_stepOf 90 = .ok (.getfield 85, 3) := by decide +kernel
theorem dX12_stepOf_93 : decode cX12_stepOf 93 = .ok (.iload 7, 2) := by decide +kernel
theorem dX12_stepOf_95 : decode cX12_stepOf 95 = .ok (.iaload, 1) := by decide +kernel
theorem dX12_stepOf_96 : decode cX12_stepOf 96 = .ok (.bipush 10, 2) := by decide +kernel
theorem dX12_stepOf_98 : decode cX12_stepOf 98 = .ok (.isub, 1) := by decide +kernel
theorem dX12_stepOf_99 : decode cX12_stepOf 99 = .ok (.istore 9, 2) := by decide +kernel
theorem dX12_stepOf_101 : decode cX12_stepOf 101 = .ok (.bipush (-9), 2) := by decide +kernel
theorem dX12_stepOf_103 : decode cX12_stepOf 103 = .ok (.istore 10, 2) := by decide +kernel
theorem dX12_stepOf_105 : decode cX12_stepOf 105 = .ok (.iconst 0, 1) := by decide +kernel
theorem dX12_stepOf_106 : decode cX12_stepOf 106 = .ok (.istore 11, 2) := by decide +kernel
theorem dX12_stepOf_108 : decode cX12_stepOf 108 = .ok (.iload 11, 2) := by decide +kernel
theorem dX12_stepOf_110 : decode cX12_stepOf 110 = .ok (.aload_n 0, 1) := by decide +kernel
theorem dX12_stepOf_111 : decode cX12_stepOf 111 = .ok (.invokevirtual 94, 3) := by decide +kernel
theorem dX12_stepOf_114 : decode cX12_stepOf 114 = .ok (.if_icmp .ge 93, 3) := by decide +kernel
theorem dX12_stepOf_117 : decode cX12_stepOf 117 = .ok (.iload 10, 2) := by decide +kernel
theorem dX12_stepOf_119 : decode cX12_stepOf 119 = .ok (.bipush (-9), 2) := by decide +kernel
theorem dX12_stepOf_121 : decode cX12_stepOf 121 = .ok (.if_icmp .ne 86, 3) := by decide +kernel
theorem dX12_stepOf_124 : decode cX12_stepOf 124 = .ok (.aload_n 0, 1) := by decide +kernel
theorem dX12_stepOf_125 : decode cX12_stepOf 125 = .ok (.iload 11, 2) := by decide +kernel
theorem dX12_stepOf_127 : decode cX12_stepOf 127 = .ok (.invokevirtual 102, 3) := by decide +kernel
theorem dX12_stepOf_130 : decode cX12_stepOf 130 = .ok (.iload 9, 2) := by decide +kernel
theorem dX12_stepOf_132 : decode cX12_stepOf 132 = .ok (.if_icmp .ne 69, 3) := by decide +kernel
theorem dX12_stepOf_135 : decode cX12_stepOf 135 = .ok (.aload_n 0, 1) := by decide +kernel
theorem dX12_stepOf_136 : decode cX12_stepOf 136 = .ok (.iload 7, 2) := by decide +kernel
theorem dX12_stepOf_138 : decode cX12_stepOf 138 = .ok (.iload 11, 2) := by decide +kernel
theorem dX12_stepOf_140 : decode cX12_stepOf 140 = .ok (.invokevirtual 296, 3) := by decide +kernel
theorem dX12_stepOf_143 : decode cX12_stepOf 143 = .ok (.aload_n 0, 1) := by decide +kernel
theorem dX12_stepOf_144 : decode cX12_stepOf 144 = .ok (.getfield 88, 3) := by decide +kernel
theorem dX12_stepOf_147 : decode cX12_stepOf 147 = .ok (.bipush 9, 2) := by decide +kernel
theorem dX12_stepOf_149 : decode cX12_stepOf 149 = .ok (.iload 7, 2) := by decide +kernel
theorem dX12_stepOf_151 : decode cX12_stepOf 151 = .ok (.aload_n 0, 1) := by decide +kernel
theorem dX12_stepOf_152 : decode cX12_stepOf 152 = .ok (.iload 11, 2) := by decide +kernel
theorem dX12_stepOf_154 : decode cX12_stepOf 154 = .ok (.invokevirtual 117, 3) := by decide +kernel
theorem dX12_stepOf_157 : decode cX12_stepOf 157 = .ok (.iadd, 1) := by decide +kernel
theorem dX12_stepOf_158 : decode cX12_stepOf 158 = .ok (.imul, 1) := by decide +kernel
theorem dX12_stepOf_159 : decode cX12_stepOf 159 = .ok (.iload 6, 2) := by decide +kernel
theorem dX12_stepOf_161 : decode cX12_stepOf 161 = .ok (.iadd, 1) := by decide +kernel
theorem dX12_stepOf_162 : decode cX12_stepOf 162 = .ok (.laload, 1) := by decide +kernel
theorem dX12_stepOf_163 : decode cX12_stepOf 163 = .ok (.lstore 12, 2) := by decide +kernel
theorem dX12_stepOf_165 : decode cX12_stepOf 165 = .ok (.lload 4, 2) := by decide +kernel
theorem dX12_stepOf_167 : decode cX12_stepOf 167 = .ok (.lload 12, 2) := by decide +kernel
theorem dX12_stepOf_169 : decode cX12_stepOf 169 = .ok (.lcmp, 1) := by decide +kernel
theorem dX12_stepOf_170 : decode cX12_stepOf 170 = .ok (.ifCond .ge 8, 3) := by decide +kernel
theorem dX12_stepOf_173 : decode cX12_stepOf 173 = .ok (.iload 11, 2) := by decide +kernel
theorem dX12_stepOf_175 : decode cX12_stepOf 175 = .ok (.goto 5, 3) := by decide +kernel
theorem dX12_stepOf_178 : decode cX12_stepOf 178 = .ok (.iload 10, 2) := by decide +kernel
theorem dX12_stepOf_180 : decode cX12_stepOf 180 = .ok (.istore 10, 2) := by decide +kernel
theorem dX12_stepOf_182 : decode cX12_stepOf 182 = .ok (.lload 4, 2) := by decide +kernel
theorem dX12_stepOf_184 : decode cX12_stepOf 184 = .ok (.lload 4, 2) := by decide +kernel
theorem dX12_stepOf_186 : decode cX12_stepOf 186 = .ok (.lload 12, 2) := by decide +kernel
theorem dX12_stepOf_188 : decode cX12_stepOf 188 = .ok (.lcmp, 1) := by decide +kernel
theorem dX12_stepOf_189 : decode cX12_stepOf 189 = .ok (.ifCond .ge 7, 3) := by decide +kernel
theorem dX12_stepOf_192 : decode cX12_stepOf 192 = .ok (.lconst 0, 1) := by decide +kernel
theorem dX12_stepOf_193 : decode cX12_stepOf 193 = .ok (.goto 5, 3) := by decide +kernel
theorem dX12_stepOf_196 : decode cX12_stepOf 196 = .ok (.lload 12, 2) := by decide +kernel
theorem dX12_stepOf_198 : decode cX12_stepOf 198 = .ok (.lsub, 1) := by decide +kernel
theorem dX12_stepOf_199 : decode cX12_stepOf 199 = .ok (.lstore 4, 2) := by decide +kernel
theorem dX12_stepOf_201 : decode cX12_stepOf 201 = .ok (.iinc 11 1, 3) := by decide +kernel
theorem dX12_stepOf_204 : decode cX12_stepOf 204 = .ok (.goto (-96), 3) := by decide +kernel
theorem dX12_stepOf_207 : decode cX12_stepOf 207 = .ok (.iload 8, 2) := by decide +kernel
theorem dX12_stepOf_209 : decode cX12_stepOf 209 = .ok (.iload_n 3, 1) := by decide +kernel
theorem dX12_stepOf_210 : decode cX12_stepOf 210 = .ok (.if_icmp .ne 6, 3) := by decide +kernel
theorem dX12_stepOf_213 : decode cX12_stepOf 213 = .ok (.iload 10, 2) := by decide +kernel
theorem dX12_stepOf_215 : decode cX12_stepOf 215 = .ok (.ireturn, 1) := by decide +kernel
theorem dX12_stepOf_216 : decode cX12_stepOf 216 = .ok (.iinc 8 1, 3) := by decide +kernel
theorem dX12_stepOf_219 : decode cX12_stepOf 219 = .ok (.iload 7, 2) := by decide +kernel
theorem dX12_stepOf_221 : decode cX12_stepOf 221 = .ok (.aload_n 0, 1) := by decide +kernel
theorem dX12_stepOf_222 : decode cX12_stepOf 222 = .ok (.iload 10, 2) := by decide +kernel
theorem dX12_stepOf_224 : decode cX12_stepOf 224 = .ok (.invokevirtual 117, 3) := by decide +kernel
theorem dX12_stepOf_227 : decode cX12_stepOf 227 = .ok (.iadd, 1) := by decide +kernel
theorem dX12_stepOf_228 : decode cX12_stepOf 228 = .ok (.istore 7, 2) := by decide +kernel
theorem dX12_stepOf_230 : decode cX12_stepOf 230 = .ok (.goto (-167), 3) := by decide +kernel
theorem dX12_stepOf_233 : decode cX12_stepOf 233 = .ok (.bipush (-9), 2) := by decide +kernel
theorem dX12_stepOf_235 : decode cX12_stepOf 235 = .ok (.ireturn, 1) := by decide +kernel
theorem dX12_step_0 : decode cX12_step 0 = .ok (.iload_n 1, 1) := by decide +kernel
theorem dX12_step_1 : decode cX12_step 1 = .ok (.iconst 0, 1) := by decide +kernel
theorem dX12_step_2 : decode cX12_step 2 = .ok (.iconst 1, 1) := by decide +kernel
theorem dX12_step_3 : decode cX12_step 3 = .ok (.invokestatic 98, 3) := by decide +kernel
theorem dX12_step_6 : decode cX12_step 6 = .ok (.ifCond .eq 14, 3) := by decide +kernel
theorem dX12_step_9 : decode cX12_step 9 = .ok (.iload_n 2, 1) := by decide +kernel
theorem dX12_step_10 : decode cX12_step 10 = .ok (.iconst 0, 1) := by decide +kernel
theorem dX12_step_11 : decode cX12_step 11 = .ok (.sipush 199, 3) := by decide +kernel
theorem dX12_step_14 : decode cX12_step 14 = .ok (.invokestatic 98, 3) := by decide +kernel
theorem dX12_step_17 : decode cX12_step 17 = .ok (.ifCond .ne 5, 3) := by decide +kernel
theorem dX12_step_20 : decode cX12_step 20 = .ok (.iconst (-1), 1) := by decide +kernel
theorem dX12_step_21 : decode cX12_step 21 = .ok (.ireturn, 1) := by decide +kernel
theorem dX12_step_22 : decode cX12_step 22 = .ok (.aload_n 0, 1) := by decide +kernel
theorem dX12_step_23 : decode cX12_step 23 = .ok (.invokevirtual 299, 3) := by decide +kernel
theorem dX12_step_26 : decode cX12_step 26 = .ok (.istore_n 3, 1) := by decide +kernel
theorem dX12_step_27 : decode cX12_step 27 = .ok (.iload_n 3, 1) := by decide +kernel
theorem dX12_step_28 : decode cX12_step 28 = .ok (.ifCond .ge 7, 3) := by decide +kernel
theorem dX12_step_31 : decode cX12_step 31 = .ok (.iload_n 3, 1) := by decide +kernel
theorem dX12_step_32 : decode cX12_step 32 = .ok (.goto 20, 3) := by decide +kernel
theorem dX12_step_35 : decode cX12_step 35 = .ok (.iload_n 1, 1) := by decide +kernel
theorem dX12_step_36 : decode cX12_step 36 = .ok (.iload_n 3, 1) := by decide +kernel
theorem dX12_step_37 : decode cX12_step 37 = .ok (.if_icmp .ge 13, 3) := by decide +kernel
theorem dX12_step_40 : decode cX12_step 40 = .ok (.aload_n 0, 1) := by decide +kernel
theorem dX12_step_41 : decode cX12_step 41 = .ok (.iload_n 1, 1) := by decide +kernel
theorem dX12_step_42 : decode cX12_step 42 = .ok (.i2l, 1) := by decide +kernel
theorem dX12_step_43 : decode cX12_step 43 = .ok (.iload_n 2, 1) := by decide +kernel
theorem dX12_step_44 : decode cX12_step 44 = .ok (.invokevirtual 302, 3) := by decide +kernel
theorem dX12_step_47 : decode cX12_step 47 = .ok (.goto 5, 3) := by decide +kernel
theorem dX12_step_50 : decode cX12_step 50 = .ok (.bipush (-9), 2) := by decide +kernel
theorem dX12_step_52 : decode cX12_step 52 = .ok (.ireturn, 1) := by decide +kernel
theorem dX12_ambiguous_0 : decode cX12_ambiguous 0 = .ok (.aload_n 0, 1) := by decide +kernel
theorem dX12_ambiguous_1 : decode cX12_ambiguous 1 = .ok (.aload_n 0, 1) := by decide +kernel
theorem dX12_ambiguous_2 : decode cX12_ambiguous 2 = .ok (.getfield 39, 3) := by decide +kernel
theorem dX12_ambiguous_5 : decode cX12_ambiguous 5 = .ok (.invokevirtual 264, 3) := by decide +kernel
theorem dX12_ambiguous_8 : decode cX12_ambiguous 8 = .ok (.ifCond .eq 6, 3) := by decide +kernel
theorem dX12_ambiguous_11 : decode cX12_ambiguous 11 = .ok (.bipush (-2), 2) := by decide +kernel
theorem dX12_ambiguous_13 : decode cX12_ambiguous 13 = .ok (.ireturn, 1) := by decide +kernel
theorem dX12_ambiguous_14 : decode cX12_ambiguous 14 = .ok (.iconst 1, 1) := by decide +kernel
theorem dX12_ambiguous_15 : decode cX12_ambiguous 15 = .ok (.istore_n 1, 1) := by decide +kernel
theorem dX12_ambiguous_16 : decode cX12_ambiguous 16 = .ok (.iconst 0, 1) := by decide +kernel
theorem dX12_ambiguous_17 : decode cX12_ambiguous 17 = .ok (.istore_n 2, 1) := by decide +kernel
theorem dX12_ambiguous_18 : decode cX12_ambiguous 18 = .ok (.iload_n 2, 1) := by decide +kernel
theorem dX12_ambiguous_19 : decode cX12_ambiguous 19 = .ok (.iconst 5, 1) := by decide +kernel
theorem dX12_ambiguous_20 : decode cX12_ambiguous 20 = .ok (.if_icmp .ge 124, 3) := by decide +kernel
theorem dX12_ambiguous_23 : decode cX12_ambiguous 23 = .ok (.iconst 0, 1) := by decide +kernel
theorem dX12_ambiguous_24 : decode cX12_ambiguous 24 = .ok (.istore_n 3, 1) := by decide +kernel
theorem dX12_ambiguous_25 : decode cX12_ambiguous 25 = .ok (.iload_n 3, 1) := by decide +kernel
theorem dX12_ambiguous_26 : decode cX12_ambiguous 26 = .ok (.iload_n 1, 1) := by decide +kernel
theorem dX12_ambiguous_27 : decode cX12_ambiguous 27 = .ok (.if_icmp .ge 107, 3) := by decide +kernel
theorem dX12_ambiguous_30 : decode cX12_ambiguous 30 = .ok (.aload_n 0, 1) := by decide +kernel
theorem dX12_ambiguous_31 : decode cX12_ambiguous 31 = .ok (.iload_n 2, 1) := by decide +kernel
theorem dX12_ambiguous_32 : decode cX12_ambiguous 32 = .ok (.putfield 251, 3) := by decide +kernel
theorem dX12_ambiguous_35 : decode cX12_ambiguous 35 = .ok (.iload_n 3, 1) := by decide +kernel
theorem dX12_ambiguous_36 : decode cX12_ambiguous 36 = .ok (.istore 4, 2) := by decide +kernel
theorem dX12_ambiguous_38 : decode cX12_ambiguous 38 = .ok (.iconst 0, 1) := by decide +kernel
theorem dX12_ambiguous_39 : decode cX12_ambiguous 39 = .ok (.istore 5, 2) := by decide +kernel
theorem dX12_ambiguous_41 : decode cX12_ambiguous 41 = .ok (.iload_n 2, 1) := by decide +kernel
theorem dX12_ambiguous_42 : decode cX12_ambiguous 42 = .ok (.iconst 1, 1) := by decide +kernel
theorem dX12_ambiguous_43 : decode cX12_ambiguous 43 = .ok (.isub, 1) := by decide +kernel
theorem dX12_ambiguous_44 : decode cX12_ambiguous 44 = .ok (.istore 6, 2) := by decide +kernel
theorem dX12_ambiguous_46 : decode cX12_ambiguous 46 = .ok (.iload 6, 2) := by decide +kernel
theorem dX12_ambiguous_48 : decode cX12_ambiguous 48 = .ok (.ifCond .lt 26, 3) := by decide +kernel
theorem dX12_ambiguous_51 : decode cX12_ambiguous 51 = .ok (.aload_n 0, 1) := by decide +kernel
theorem dX12_ambiguous_52 : decode cX12_ambiguous 52 = .ok (.getfield 66, 3) := by decide +kernel
theorem dX12_ambiguous_55 : decode cX12_ambiguous 55 = .ok (.iload 6, 2) := by decide +kernel
theorem dX12_ambiguous_57 : decode cX12_ambiguous 57 = .ok (.iload 4, 2) := by decide +kernel
theorem dX12_ambiguous_59 : decode cX12_ambiguous 59 = .ok (.iconst 5, 1) := by decide +kernel
theorem dX12_ambiguous_60 : decode cX12_ambiguous 60 = .ok (.irem, 1) := by decide +kernel
theorem dX12_ambiguous_61 : decode cX12_ambiguous 61 = .ok (.iastore, 1) := by decide +kernel
theorem dX12_ambiguous_62 : decode cX12_ambiguous 62 = .ok (.iload 4, 2) := by decide +kernel
theorem dX12_ambiguous_64 : decode cX12_ambiguous 64 = .ok (.iconst 5, 1) := by decide +kernel
theorem dX12_ambiguous_65 : decode cX12_ambiguous 65 = .ok (.idiv, 1) := by decide +kernel
theorem dX12_ambiguous_66 : decode cX12_ambiguous 66 = .ok (.istore 4, 2) := by decide +kernel
theorem dX12_ambiguous_68 : decode cX12_ambiguous 68 = .ok (.iinc 6 (-1), 3) := by decide +kernel
theorem dX12_ambiguous_71 : decode cX12_ambiguous 71 = .ok (.goto (-25), 3) := by decide +kernel
theorem dX12_ambiguous_74 : decode cX12_ambiguous 74 = .ok (.iconst 0, 1) := by decide +kernel
theorem dX12_ambiguous_75 : decode cX12_ambiguous 75 = .ok (.istore 6, 2) := by decide +kernel
theorem dX12_ambiguous_77 : decode cX12_ambiguous 77 = .ok (.iload 6, 2) := by decide +kernel
theorem dX12_ambiguous_79 : decode cX12_ambiguous 79 = .ok (.iload_n 2, 1) := by decide +kernel
theorem dX12_ambiguous_80 : decode cX12_ambiguous 80 = .ok (.if_icmp .ge 26, 3) := by decide +kernel
theorem dX12_ambiguous_83 : decode cX12_ambiguous 83 = .ok (.bipush 6, 2) := by decide +kernel
theorem dX12_ambiguous_85 : decode cX12_ambiguous 85 = .ok (.iload 5, 2) := by decide +kernel
theorem dX12_ambiguous_87 : decode cX12_ambiguous 87 = .ok (.imul, 1) := by decide +kernel
theorem dX12_ambiguous_88 : decode cX12_ambiguous 88 = .ok (.aload_n 0, 1) := by decide +kernel
theorem dX12_ambiguous_89 : decode cX12_ambiguous 89 = .ok (.getfield 66, 3) := by decide +kernel
theorem dX12_ambiguous_92 : decode cX12_ambiguous 92 = .ok (.iload 6, 2) := by decide +kernel
theorem dX12_ambiguous_94 : decode cX12_ambiguous 94 = .ok (.iaload, 1) := by decide +kernel
theorem dX12_ambiguous_95 : decode cX12_ambiguous 95 = .ok (.iadd, 1) := by decide +kernel
theorem dX12_ambiguous_96 : decode cX12_ambiguous 96 = .ok (.iconst 1, 1) := by decide +kernel
theorem dX12_ambiguous_97 : decode cX12_ambiguous 97 = .ok (.iadd, 1) := by decide +kernel
theorem dX12_ambiguous_98 : decode cX12_ambiguous 98 = .ok (.istore 5, 2) := by decide +kernel
theorem dX12_ambiguous_100 : decode cX12_ambiguous 100 = .ok (.iinc 6 1, 3) := by decide +kernel
theorem dX12_ambiguous_103 : decode cX12_ambiguous 103 = .ok (.goto (-26), 3) := by decide +kernel
theorem dX12_ambiguous_106 : decode cX12_ambiguous 106 = .ok (.aload_n 0, 1) := by decide +kernel
theorem dX12_ambiguous_107 : decode cX12_ambiguous 107 = .ok (.invokevirtual 290, 3) := by decide +kernel
theorem dX12_ambiguous_110 : decode cX12_ambiguous 110 = .ok (.aload_n 0, 1) := by decide +kernel
theorem dX12_ambiguous_111 : decode cX12_ambiguous 111 = .ok (.aload_n 0, 1) := by decide +kernel
theorem dX12_ambiguous_112 : decode cX12_ambiguous 112 = .ok (.invokevirtual 124, 3) := by decide +kernel
theorem dX12_ambiguous_115 : decode cX12_ambiguous 115 = .ok (.iconst 0, 1) := by decide +kernel
theorem dX12_ambiguous_116 : decode cX12_ambiguous 116 = .ok (.iload_n 2, 1) := by decide +kernel
theorem dX12_ambiguous_117 : decode cX12_ambiguous 117 = .ok (.invokevirtual 280, 3) := by decide +kernel
theorem dX12_ambiguous_120 : decode cX12_ambiguous 120 = .ok (.lconst 1, 1) := by decide +kernel
theorem dX12_ambiguous_121 : decode cX12_ambiguous 121 = .ok (.lcmp, 1) := by decide +kernel
theorem dX12_ambiguous_122 : decode cX12_ambiguous 122 = .ok (.ifCond .le 6, 3) := by decide +kernel
theorem dX12_ambiguous_125 : decode cX12_ambiguous 125 = .ok (.iload 5, 2) := by decide +kernel
theorem dX12_ambiguous_127 : decode cX12_ambiguous 127 = .ok (.ireturn, 1) := by decide +kernel
theorem dX12_ambiguous_128 : decode cX12_ambiguous 128 = .ok (.iinc 3 1, 3) := by decide +kernel
theorem dX12_ambiguous_131 : decode cX12_ambiguous 131 = .ok (.goto (-106), 3) := by decide +kernel
theorem dX12_ambiguous_134 : decode cX12_ambiguous 134 = .ok (.iload_n 1, 1) := by decide +kernel
theorem dX12_ambiguous_135 : decode cX12_ambiguous 135 = .ok (.iconst 5, 1) := by decide +kernel
theorem dX12_ambiguous_136 : decode cX12_ambiguous 136 = .ok (.imul, 1) := by decide +kernel
theorem dX12_ambiguous_137 : decode cX12_ambiguous 137 = .ok (.istore_n 1, 1) := by decide +kernel
theorem dX12_ambiguous_138 : decode cX12_ambiguous 138 = .ok (.iinc 2 1, 3) := by decide +kernel
theorem dX12_ambiguous_141 : decode cX12_ambiguous 141 = .ok (.goto (-123), 3) := by decide +kernel
theorem dX12_ambiguous_144 : decode cX12_ambiguous 144 = .ok (.bipush (-9), 2) := by decide +kernel
theorem dX12_ambiguous_146 : decode cX12_ambiguous 146 = .ok (.ireturn, 1) := by decide +kernel
theorem dX12_tell_0 : decode cX12_tell 0 = .ok (.iload_n 1, 1) := by decide +kernel
theorem dX12_tell_1 : decode cX12_tell 1 = .ok (.tableswitch 100 0 5 #[39, 44, 49, 85, 90, 95], 39) := by decide +kernel
theorem dX12_tell_40 : decode cX12_tell 40 = .ok (.aload_n 0, 1) := by decide +kernel
theorem dX12_tell_41 : decode cX12_tell 41 = .ok (.invokevirtual 94, 3) := by decide +kernel
theorem dX12_tell_44 : decode cX12_tell 44 = .ok (.ireturn, 1) := by decide +kernel
theorem dX12_tell_45 : decode cX12_tell 45 = .ok (.aload_n 0, 1) := by decide +kernel
theorem dX12_tell_46 : decode cX12_tell 46 = .ok (.invokevirtual 124, 3) := by decide +kernel
theorem dX12_tell_49 : decode cX12_tell 49 = .ok (.ireturn, 1) := by decide +kernel
theorem dX12_tell_50 : decode cX12_tell 50 = .ok (.iconst 0, 1) := by decide +kernel
theorem dX12_tell_51 : decode cX12_tell 51 = .ok (.istore_n 2, 1) := by decide +kernel
theorem dX12_tell_52 : decode cX12_tell 52 = .ok (.iconst 0, 1) := by decide +kernel
theorem dX12_tell_53 : decode cX12_tell 53 = .ok (.istore_n 3, 1) := by decide +kernel
theorem dX12_tell_54 : decode cX12_tell 54 = .ok (.iload_n 3, 1) := by decide +kernel
theorem dX12_tell_55 : decode cX12_tell 55 = .ok (.bipush 6, 2) := by decide +kernel
theorem dX12_tell_57 : decode cX12_tell 57 = .ok (.if_icmp .ge 27, 3) := by decide +kernel
theorem dX12_tell_60 : decode cX12_tell 60 = .ok (.iload_n 2, 1) := by decide +kernel
theorem dX12_tell_61 : decode cX12_tell 61 = .ok (.aload_n 0, 1) := by decide +kernel
theorem dX12_tell_62 : decode cX12_tell 62 = .ok (.iload_n 3, 1) := by decide +kernel
theorem dX12_tell_63 : decode cX12_tell 63 = .ok (.invokevirtual 217, 3) := by decide +kernel
theorem dX12_tell_66 : decode cX12_tell 66 = .ok (.ifCond .eq 9, 3) := by decide +kernel
theorem dX12_tell_69 : decode cX12_tell 69 = .ok (.iconst 1, 1) := by decide +kernel
theorem dX12_tell_70 : decode cX12_tell 70 = .ok (.iload_n 3, 1) := by decide +kernel
theorem dX12_tell_71 : decode cX12_tell 71 = .ok (.ishl, 1) := by decide +kernel
theorem dX12_tell_72 : decode cX12_tell 72 = .ok (.goto 4, 3) := by decide +kernel
theorem dX12_tell_75 : decode cX12_tell 75 = .ok (.iconst 0, 1) := by decide +kernel
theorem dX12_tell_76 : decode cX12_tell 76 = .ok (.ior, 1) := by decide +kernel
theorem dX12_tell_77 : decode cX12_tell 77 = .ok (.istore_n 2, 1) := by decide +kernel
theorem dX12_tell_78 : decode cX12_tell 78 = .ok (.iinc 3 1, 3) := by decide +kernel
theorem dX12_tell_81 : decode cX12_tell 81 = .ok (.goto (-27), 3) := by decide +kernel
theorem dX12_tell_84 : decode cX12_tell 84 = .ok (.iload_n 2, 1) := by decide +kernel
theorem dX12_tell_85 : decode cX12_tell 85 = .ok (.ireturn, 1) := by decide +kernel
theorem dX12_tell_86 : decode cX12_tell 86 = .ok (.aload_n 0, 1) := by decide +kernel
theorem dX12_tell_87 : decode cX12_tell 87 = .ok (.getfield 185, 3) := by decide +kernel
theorem dX12_tell_90 : decode cX12_tell 90 = .ok (.ireturn, 1) := by decide +kernel
theorem dX12_tell_91 : decode cX12_tell 91 = .ok (.aload_n 0, 1) := by decide +kernel
theorem dX12_tell_92 : decode cX12_tell 92 = .ok (.getfield 211, 3) := by decide +kernel
theorem dX12_tell_95 : decode cX12_tell 95 = .ok (.ireturn, 1) := by decide +kernel
theorem dX12_tell_96 : decode cX12_tell 96 = .ok (.aload_n 0, 1) := by decide +kernel
theorem dX12_tell_97 : decode cX12_tell 97 = .ok (.getfield 257, 3) := by decide +kernel
theorem dX12_tell_100 : decode cX12_tell 100 = .ok (.ireturn, 1) := by decide +kernel
theorem dX12_tell_101 : decode cX12_tell 101 = .ok (.iconst (-1), 1) := by decide +kernel
theorem dX12_tell_102 : decode cX12_tell 102 = .ok (.ireturn, 1) := by decide +kernel
theorem dX12_told_0 : decode cX12_told 0 = .ok (.aload_n 0, 1) := by decide +kernel
theorem dX12_told_1 : decode cX12_told 1 = .ok (.iload_n 1, 1) := by decide +kernel
theorem dX12_told_2 : decode cX12_told 2 = .ok (.invokevirtual 306, 3) := by decide +kernel
theorem dX12_told_5 : decode cX12_told 5 = .ok (.ireturn, 1) := by decide +kernel
theorem dX12_undo_0 : decode cX12_undo 0 = .ok (.aload_n 0, 1) := by decide +kernel
theorem dX12_undo_1 : decode cX12_undo 1 = .ok (.getfield 211, 3) := by decide +kernel
theorem dX12_undo_4 : decode cX12_undo 4 = .ok (.ifCond .ne 6, 3) := by decide +kernel
theorem dX12_undo_7 : decode cX12_undo 7 = .ok (.bipush (-2), 2) := by decide +kernel
theorem dX12_undo_9 : decode cX12_undo 9 = .ok (.ireturn, 1) := by decide +kernel
theorem dX12_undo_10 : decode cX12_undo 10 = .ok (.aload_n 0, 1) := by decide +kernel
theorem dX12_undo_11 : decode cX12_undo 11 = .ok (.dup, 1) := by decide +kernel
theorem dX12_undo_12 : decode cX12_undo 12 = .ok (.getfield 211, 3) := by decide +kernel
theorem dX12_undo_15 : decode cX12_undo 15 = .ok (.iconst 1, 1) := by decide +kernel
theorem dX12_undo_16 : decode cX12_undo 16 = .ok (.isub, 1) := by decide +kernel
theorem dX12_undo_17 : decode cX12_undo 17 = .ok (.putfield 211, 3) := by decide +kernel
theorem dX12_undo_20 : decode cX12_undo 20 = .ok (.iconst 0, 1) := by decide +kernel
theorem dX12_undo_21 : decode cX12_undo 21 = .ok (.istore_n 1, 1) := by decide +kernel
theorem dX12_undo_22 : decode cX12_undo 22 = .ok (.iload_n 1, 1) := by decide +kernel
theorem dX12_undo_23 : decode cX12_undo 23 = .ok (.bipush 113, 2) := by decide +kernel
theorem dX12_undo_25 : decode cX12_undo 25 = .ok (.if_icmp .ge 29, 3) := by decide +kernel
theorem dX12_undo_28 : decode cX12_undo 28 = .ok (.aload_n 0, 1) := by decide +kernel
theorem dX12_undo_29 : decode cX12_undo 29 = .ok (.getfield 7, 3) := by decide +kernel
theorem dX12_undo_32 : decode cX12_undo 32 = .ok (.iload_n 1, 1) := by decide +kernel
theorem dX12_undo_33 : decode cX12_undo 33 = .ok (.aload_n 0, 1) := by decide +kernel
theorem dX12_undo_34 : decode cX12_undo 34 = .ok (.getfield 13, 3) := by decide +kernel
theorem dX12_undo_37 : decode cX12_undo 37 = .ok (.bipush 113, 2) := by decide +kernel
theorem dX12_undo_39 : decode cX12_undo 39 = .ok (.aload_n 0, 1) := by decide +kernel
theorem dX12_undo_40 : decode cX12_undo 40 = .ok (.getfield 211, 3) := by decide +kernel
theorem dX12_undo_43 : decode cX12_undo 43 = .ok (.imul, 1) := by decide +kernel
theorem dX12_undo_44 : decode cX12_undo 44 = .ok (.iload_n 1, 1) := by decide +kernel
theorem dX12_undo_45 : decode cX12_undo 45 = .ok (.iadd, 1) := by decide +kernel
theorem dX12_undo_46 : decode cX12_undo 46 = .ok (.iaload, 1) := by decide +kernel
theorem dX12_undo_47 : decode cX12_undo 47 = .ok (.iastore, 1) := by decide +kernel
theorem dX12_undo_48 : decode cX12_undo 48 = .ok (.iinc 1 1, 3) := by decide +kernel
theorem dX12_undo_51 : decode cX12_undo 51 = .ok (.goto (-29), 3) := by decide +kernel
theorem dX12_undo_54 : decode cX12_undo 54 = .ok (.aload_n 0, 1) := by decide +kernel
theorem dX12_undo_55 : decode cX12_undo 55 = .ok (.invokevirtual 91, 3) := by decide +kernel
theorem dX12_undo_58 : decode cX12_undo 58 = .ok (.aload_n 0, 1) := by decide +kernel
theorem dX12_undo_59 : decode cX12_undo 59 = .ok (.getfield 211, 3) := by decide +kernel
theorem dX12_undo_62 : decode cX12_undo 62 = .ok (.ireturn, 1) := by decide +kernel
theorem dX12_mix_0 : decode cX12_mix 0 = .ok (.aload_n 0, 1) := by decide +kernel
theorem dX12_mix_1 : decode cX12_mix 1 = .ok (.ldc2_w 309, 3) := by decide +kernel
theorem dX12_mix_4 : decode cX12_mix 4 = .ok (.aload_n 0, 1) := by decide +kernel
theorem dX12_mix_5 : decode cX12_mix 5 = .ok (.getfield 311, 3) := by decide +kernel
theorem dX12_mix_8 : decode cX12_mix 8 = .ok (.lmul, 1) := by decide +kernel
theorem dX12_mix_9 : decode cX12_mix 9 = .ok (.iload_n 1, 1) := by decide +kernel
theorem dX12_mix_10 : decode cX12_mix 10 = .ok (.i2l, 1) := by decide +kernel
theorem dX12_mix_11 : decode cX12_mix 11 = .ok (.ladd, 1) := by decide +kernel
theorem dX12_mix_12 : decode cX12_mix 12 = .ok (.putfield 311, 3) := by decide +kernel
theorem dX12_mix_15 : decode cX12_mix 15 = .ok (.return_, 1) := by decide +kernel
theorem dX12_digest_0 : decode cX12_digest 0 = .ok (.aload_n 0, 1) := by decide +kernel
theorem dX12_digest_1 : decode cX12_digest 1 = .ok (.ldc2_w 315, 3) := by decide +kernel
theorem dX12_digest_4 : decode cX12_digest 4 = .ok (.putfield 311, 3) := by decide +kernel
theorem dX12_digest_7 : decode cX12_digest 7 = .ok (.iconst 0, 1) := by decide +kernel
theorem dX12_digest_8 : decode cX12_digest 8 = .ok (.istore_n 1, 1) := by decide +kernel
theorem dX12_digest_9 : decode cX12_digest 9 = .ok (.iload_n 1, 1) := by decide +kernel
theorem dX12_digest_10 : decode cX12_digest 10 = .ok (.bipush 6, 2) := by decide +kernel
theorem dX12_digest_12 : decode cX12_digest 12 = .ok (.if_icmp .ge 18, 3) := by decide +kernel
theorem dX12_digest_15 : decode cX12_digest 15 = .ok (.aload_n 0, 1) := by decide +kernel
theorem dX12_digest_16 : decode cX12_digest 16 = .ok (.aload_n 0, 1) := by decide +kernel
theorem dX12_digest_17 : decode cX12_digest 17 = .ok (.iload_n 1, 1) := by decide +kernel
theorem dX12_digest_18 : decode cX12_digest 18 = .ok (.invokevirtual 306, 3) := by decide +kernel
theorem dX12_digest_21 : decode cX12_digest 21 = .ok (.invokevirtual 317, 3) := by decide +kernel
theorem dX12_digest_24 : decode cX12_digest 24 = .ok (.iinc 1 1, 3) := by decide +kernel
theorem dX12_digest_27 : decode cX12_digest 27 = .ok (.goto (-18), 3) := by decide +kernel
theorem dX12_digest_30 : decode cX12_digest 30 = .ok (.iconst 0, 1) := by decide +kernel
theorem dX12_digest_31 : decode cX12_digest 31 = .ok (.istore_n 1, 1) := by decide +kernel
theorem dX12_digest_32 : decode cX12_digest 32 = .ok (.iload_n 1, 1) := by decide +kernel
theorem dX12_digest_33 : decode cX12_digest 33 = .ok (.aload_n 0, 1) := by decide +kernel
theorem dX12_digest_34 : decode cX12_digest 34 = .ok (.invokevirtual 94, 3) := by decide +kernel
theorem dX12_digest_37 : decode cX12_digest 37 = .ok (.if_icmp .ge 108, 3) := by decide +kernel
theorem dX12_digest_40 : decode cX12_digest 40 = .ok (.aload_n 0, 1) := by decide +kernel
theorem dX12_digest_41 : decode cX12_digest 41 = .ok (.aload_n 0, 1) := by decide +kernel
theorem dX12_digest_42 : decode cX12_digest 42 = .ok (.iload_n 1, 1) := by decide +kernel
theorem dX12_digest_43 : decode cX12_digest 43 = .ok (.invokevirtual 102, 3) := by decide +kernel
theorem dX12_digest_46 : decode cX12_digest 46 = .ok (.invokevirtual 317, 3) := by decide +kernel
theorem dX12_digest_49 : decode cX12_digest 49 = .ok (.aload_n 0, 1) := by decide +kernel
theorem dX12_digest_50 : decode cX12_digest 50 = .ok (.aload_n 0, 1) := by decide +kernel
theorem dX12_digest_51 : decode cX12_digest 51 = .ok (.iload_n 1, 1) := by decide +kernel
theorem dX12_digest_52 : decode cX12_digest 52 = .ok (.invokevirtual 117, 3) := by decide +kernel
theorem dX12_digest_55 : decode cX12_digest 55 = .ok (.invokevirtual 317, 3) := by decide +kernel
theorem dX12_digest_58 : decode cX12_digest 58 = .ok (.iconst 0, 1) := by decide +kernel
theorem dX12_digest_59 : decode cX12_digest 59 = .ok (.istore_n 2, 1) := by decide +kernel
theorem dX12_digest_60 : decode cX12_digest 60 = .ok (.iload_n 2, 1) := by decide +kernel
theorem dX12_digest_61 : decode cX12_digest 61 = .ok (.aload_n 0, 1) := by decide +kernel
theorem dX12_digest_62 : decode cX12_digest 62 = .ok (.iload_n 1, 1) := by decide +kernel
theorem dX12_digest_63 : decode cX12_digest 63 = .ok (.invokevirtual 117, 3) := by decide +kernel
theorem dX12_digest_66 : decode cX12_digest 66 = .ok (.if_icmp .ge 19, 3) := by decide +kernel
theorem dX12_digest_69 : decode cX12_digest 69 = .ok (.aload_n 0, 1) := by decide +kernel
theorem dX12_digest_70 : decode cX12_digest 70 = .ok (.aload_n 0, 1) := by decide +kernel
theorem dX12_digest_71 : decode cX12_digest 71 = .ok (.iload_n 1, 1) := by decide +kernel
theorem dX12_digest_72 : decode cX12_digest 72 = .ok (.iload_n 2, 1) := by decide +kernel
theorem dX12_digest_73 : decode cX12_digest 73 = .ok (.invokevirtual 109, 3) := by decide +kernel
theorem dX12_digest_76 : decode cX12_digest 76 = .ok (.invokevirtual 317, 3) := by decide +kernel
theorem dX12_digest_79 : decode cX12_digest 79 = .ok (.iinc 2 1, 3) := by decide +kernel
theorem dX12_digest_82 : decode cX12_digest 82 = .ok (.goto (-22), 3) := by decide +kernel
theorem dX12_digest_85 : decode cX12_digest 85 = .ok (.iconst 0, 1) := by decide +kernel
theorem dX12_digest_86 : decode cX12_digest 86 = .ok (.istore_n 2, 1) := by decide +kernel
theorem dX12_digest_87 : decode cX12_digest 87 = .ok (.iload_n 2, 1) := by decide +kernel
theorem dX12_digest_88 : decode cX12_digest 88 = .ok (.iconst 4, 1) := by decide +kernel
theorem dX12_digest_89 : decode cX12_digest 89 = .ok (.if_icmp .ge 27, 3) := by decide +kernel
theorem dX12_digest_92 : decode cX12_digest 92 = .ok (.aload_n 0, 1) := by decide +kernel
theorem dX12_digest_93 : decode cX12_digest 93 = .ok (.aload_n 0, 1) := by decide +kernel
theorem dX12_digest_94 : decode cX12_digest 94 = .ok (.sipush 2592, 3) := by decide +kernel
theorem dX12_digest_97 : decode cX12_digest 97 = .ok (.sipush 216, 3) := by decide +kernel
theorem dX12_digest_100 : decode cX12_digest 100 = .ok (.iload_n 1, 1) := by decide +kernel
theorem dX12_digest_101 : decode cX12_digest 101 = .ok (.imul, 1) := by decide +kernel
theorem dX12_digest_102 : decode cX12_digest 102 = .ok (.iadd, 1) := by decide +kernel
theorem dX12_digest_103 : decode cX12_digest 103 = .ok (.iload_n 2, 1) := by decide +kernel
theorem dX12_digest_104 : decode cX12_digest 104 = .ok (.invokevirtual 229, 3) := by decide +kernel
theorem dX12_digest_107 : decode cX12_digest 107 = .ok (.invokevirtual 317, 3) := by decide +kernel
theorem dX12_digest_110 : decode cX12_digest 110 = .ok (.iinc 2 1, 3) := by decide +kernel
theorem dX12_digest_113 : decode cX12_digest 113 = .ok (.goto (-26), 3) := by decide +kernel
theorem dX12_digest_116 : decode cX12_digest 116 = .ok (.iconst 0, 1) := by decide +kernel
theorem dX12_digest_117 : decode cX12_digest 117 = .ok (.istore_n 2, 1) := by decide +kernel
theorem dX12_digest_118 : decode cX12_digest 118 = .ok (.iload_n 2, 1) := by decide +kernel
theorem dX12_digest_119 : decode cX12_digest 119 = .ok (.iconst 3, 1) := by decide +kernel
theorem dX12_digest_120 : decode cX12_digest 120 = .ok (.if_icmp .ge 19, 3) := by decide +kernel
theorem dX12_digest_123 : decode cX12_digest 123 = .ok (.aload_n 0, 1) := by decide +kernel
theorem dX12_digest_124 : decode cX12_digest 124 = .ok (.aload_n 0, 1) := by decide +kernel
theorem dX12_digest_125 : decode cX12_digest 125 = .ok (.iload_n 1, 1) := by decide +kernel
theorem dX12_digest_126 : decode cX12_digest 126 = .ok (.iload_n 2, 1) := by decide +kernel
theorem dX12_digest_127 : decode cX12_digest 127 = .ok (.invokevirtual 232, 3) := by decide +kernel
theorem dX12_digest_130 : decode cX12_digest 130 = .ok (.invokevirtual 317, 3) := by decide +kernel
theorem dX12_digest_133 : decode cX12_digest 133 = .ok (.iinc 2 1, 3) := by decide +kernel
theorem dX12_digest_136 : decode cX12_digest 136 = .ok (.goto (-18), 3) := by decide +kernel
theorem dX12_digest_139 : decode cX12_digest 139 = .ok (.iinc 1 1, 3) := by decide +kernel
theorem dX12_digest_142 : decode cX12_digest 142 = .ok (.goto (-110), 3) := by decide +kernel
theorem dX12_digest_145 : decode cX12_digest 145 = .ok (.iconst 0, 1) := by decide +kernel
theorem dX12_digest_146 : decode cX12_digest 146 = .ok (.istore_n 1, 1) := by decide +kernel
theorem dX12_digest_147 : decode cX12_digest 147 = .ok (.iload_n 1, 1) := by decide +kernel
theorem dX12_digest_148 : decode cX12_digest 148 = .ok (.bipush 6, 2) := by decide +kernel
theorem dX12_digest_150 : decode cX12_digest 150 = .ok (.if_icmp .ge 106, 3) := by decide +kernel
theorem dX12_digest_153 : decode cX12_digest 153 = .ok (.aload_n 0, 1) := by decide +kernel
theorem dX12_digest_154 : decode cX12_digest 154 = .ok (.iload_n 1, 1) := by decide +kernel
theorem dX12_digest_155 : decode cX12_digest 155 = .ok (.invokevirtual 217, 3) := by decide +kernel
theorem dX12_digest_158 : decode cX12_digest 158 = .ok (.ifCond .eq 92, 3) := by decide +kernel
theorem dX12_digest_161 : decode cX12_digest 161 = .ok (.aload_n 0, 1) := by decide +kernel
theorem dX12_digest_162 : decode cX12_digest 162 = .ok (.iload_n 1, 1) := by decide +kernel
theorem dX12_digest_163 : decode cX12_digest 163 = .ok (.invokevirtual 317, 3) := by decide +kernel
theorem dX12_digest_166 : decode cX12_digest 166 = .ok (.iconst 1, 1) := by decide +kernel
theorem dX12_digest_167 : decode cX12_digest 167 = .ok (.istore_n 2, 1) := by decide +kernel
theorem dX12_digest_168 : decode cX12_digest 168 = .ok (.iload_n 2, 1) := by decide +kernel
theorem dX12_digest_169 : decode cX12_digest 169 = .ok (.bipush 8, 2) := by decide +kernel
theorem dX12_digest_171 : decode cX12_digest 171 = .ok (.if_icmp .ge 19, 3) := by decide +kernel
theorem dX12_digest_174 : decode cX12_digest 174 = .ok (.aload_n 0, 1) := by decide +kernel
theorem dX12_digest_175 : decode cX12_digest 175 = .ok (.aload_n 0, 1) := by decide +kernel
theorem dX12_digest_176 : decode cX12_digest 176 = .ok (.iload_n 1, 1) := by decide +kernel
theorem dX12_digest_177 : decode cX12_digest 177 = .ok (.iload_n 2, 1) := by decide +kernel
theorem dX12_digest_178 : decode cX12_digest 178 = .ok (.invokevirtual 220, 3) := by decide +kernel
theorem dX12_digest_181 : decode cX12_digest 181 = .ok (.invokevirtual 317, 3) := by decide +kernel
theorem dX12_digest_184 : decode cX12_digest 184 = .ok (.iinc 2 1, 3) := by decide +kernel
theorem dX12_digest_187 : decode cX12_digest 187 = .ok (.goto (-19), 3) := by decide +kernel
theorem dX12_digest_190 : decode cX12_digest 190 = .ok (.aload_n 0, 1) := by decide +kernel
theorem dX12_digest_191 : decode cX12_digest 191 = .ok (.aload_n 0, 1) := by decide +kernel
theorem dX12_digest_192 : decode cX12_digest 192 = .ok (.sipush 216, 3) := by decide +kernel
theorem dX12_digest_195 : decode cX12_digest 195 = .ok (.iload_n 1, 1) := by decide +kernel
theorem dX12_digest_196 : decode cX12_digest 196 = .ok (.imul, 1) := by decide +kernel
theorem dX12_digest_197 : decode cX12_digest 197 = .ok (.iconst 3, 1) := by decide +kernel
theorem dX12_digest_198 : decode cX12_digest 198 = .ok (.invokevirtual 229, 3) := by decide +kernel
theorem dX12_digest_201 : decode cX12_digest 201 = .ok (.invokevirtual 317, 3) := by decide +kernel
theorem dX12_digest_204 : decode cX12_digest 204 = .ok (.aload_n 0, 1) := by decide +kernel
theorem dX12_digest_205 : decode cX12_digest 205 = .ok (.aload_n 0, 1) := by decide +kernel
theorem dX12_digest_206 : decode cX12_digest 206 = .ok (.sipush 1296, 3) := by decide +kernel
theorem dX12_digest_209 : decode cX12_digest 209 = .ok (.sipush 216, 3) := by decide +kernel
theorem dX12_digest_212 : decode cX12_digest 212 = .ok (.iload_n 1, 1) := by decide +kernel
theorem dX12_digest_213 : decode cX12_digest 213 = .ok (.imul, 1) := by decide +kernel
theorem dX12_digest_214 : decode cX12_digest 214 = .ok (.iadd, 1) := by decide +kernel
theorem dX12_digest_215 : decode cX12_digest 215 = .ok (.iconst 3, 1) := by decide +kernel
theorem dX12_digest_216 : decode cX12_digest 216 = .ok (.invokevirtual 229, 3) := by decide +kernel
theorem dX12_digest_219 : decode cX12_digest 219 = .ok (.invokevirtual 317, 3) := by decide +kernel
theorem dX12_digest_222 : decode cX12_digest 222 = .ok (.aload_n 0, 1) := by decide +kernel
theorem dX12_digest_223 : decode cX12_digest 223 = .ok (.aload_n 0, 1) := by decide +kernel
theorem dX12_digest_224 : decode cX12_digest 224 = .ok (.iload_n 1, 1) := by decide +kernel
theorem dX12_digest_225 : decode cX12_digest 225 = .ok (.invokevirtual 242, 3) := by decide +kernel
theorem dX12_digest_228 : decode cX12_digest 228 = .ok (.invokevirtual 317, 3) := by decide +kernel
theorem dX12_digest_231 : decode cX12_digest 231 = .ok (.aload_n 0, 1) := by decide +kernel
theorem dX12_digest_232 : decode cX12_digest 232 = .ok (.aload_n 0, 1) := by decide +kernel
theorem dX12_digest_233 : decode cX12_digest 233 = .ok (.iload_n 1, 1) := by decide +kernel
theorem dX12_digest_234 : decode cX12_digest 234 = .ok (.invokevirtual 248, 3) := by decide +kernel
theorem dX12_digest_237 : decode cX12_digest 237 = .ok (.invokevirtual 317, 3) := by decide +kernel
theorem dX12_digest_240 : decode cX12_digest 240 = .ok (.aload_n 0, 1) := by decide +kernel
theorem dX12_digest_241 : decode cX12_digest 241 = .ok (.aload_n 0, 1) := by decide +kernel
theorem dX12_digest_242 : decode cX12_digest 242 = .ok (.iload_n 1, 1) := by decide +kernel
theorem dX12_digest_243 : decode cX12_digest 243 = .ok (.iconst 3, 1) := by decide +kernel
theorem dX12_digest_244 : decode cX12_digest 244 = .ok (.invokevirtual 239, 3) := by decide +kernel
theorem dX12_digest_247 : decode cX12_digest 247 = .ok (.invokevirtual 317, 3) := by decide +kernel
theorem dX12_digest_250 : decode cX12_digest 250 = .ok (.iinc 1 1, 3) := by decide +kernel
theorem dX12_digest_253 : decode cX12_digest 253 = .ok (.goto (-106), 3) := by decide +kernel
theorem dX12_digest_256 : decode cX12_digest 256 = .ok (.aload_n 0, 1) := by decide +kernel
theorem dX12_digest_257 : decode cX12_digest 257 = .ok (.aload_n 0, 1) := by decide +kernel
theorem dX12_digest_258 : decode cX12_digest 258 = .ok (.iconst 0, 1) := by decide +kernel
theorem dX12_digest_259 : decode cX12_digest 259 = .ok (.invokevirtual 260, 3) := by decide +kernel
theorem dX12_digest_262 : decode cX12_digest 262 = .ok (.invokevirtual 317, 3) := by decide +kernel
theorem dX12_digest_265 : decode cX12_digest 265 = .ok (.aload_n 0, 1) := by decide +kernel
theorem dX12_digest_266 : decode cX12_digest 266 = .ok (.aload_n 0, 1) := by decide +kernel
theorem dX12_digest_267 : decode cX12_digest 267 = .ok (.iconst 1, 1) := by decide +kernel
theorem dX12_digest_268 : decode cX12_digest 268 = .ok (.invokevirtual 260, 3) := by decide +kernel
theorem dX12_digest_271 : decode cX12_digest 271 = .ok (.invokevirtual 317, 3) := by decide +kernel
theorem dX12_digest_274 : decode cX12_digest 274 = .ok (.iconst 0, 1) := by decide +kernel
theorem dX12_digest_275 : decode cX12_digest 275 = .ok (.istore_n 1, 1) := by decide +kernel
theorem dX12_digest_276 : decode cX12_digest 276 = .ok (.iload_n 1, 1) := by decide +kernel
theorem dX12_digest_277 : decode cX12_digest 277 = .ok (.aload_n 0, 1) := by decide +kernel
theorem dX12_digest_278 : decode cX12_digest 278 = .ok (.getfield 257, 3) := by decide +kernel
theorem dX12_digest_281 : decode cX12_digest 281 = .ok (.if_icmp .ge 19, 3) := by decide +kernel
theorem dX12_digest_284 : decode cX12_digest 284 = .ok (.aload_n 0, 1) := by decide +kernel
theorem dX12_digest_285 : decode cX12_digest 285 = .ok (.aload_n 0, 1) := by decide +kernel
theorem dX12_digest_286 : decode cX12_digest 286 = .ok (.getfield 23, 3) := by decide +kernel
theorem dX12_digest_289 : decode cX12_digest 289 = .ok (.iload_n 1, 1) := by decide +kernel
theorem dX12_digest_290 : decode cX12_digest 290 = .ok (.iaload, 1) := by decide +kernel
theorem dX12_digest_291 : decode cX12_digest 291 = .ok (.invokevirtual 317, 3) := by decide +kernel
theorem dX12_digest_294 : decode cX12_digest 294 = .ok (.iinc 1 1, 3) := by decide +kernel
theorem dX12_digest_297 : decode cX12_digest 297 = .ok (.goto (-21), 3) := by decide +kernel
theorem dX12_digest_300 : decode cX12_digest 300 = .ok (.aload_n 0, 1) := by decide +kernel
theorem dX12_digest_301 : decode cX12_digest 301 = .ok (.aload_n 0, 1) := by decide +kernel
theorem dX12_digest_302 : decode cX12_digest 302 = .ok (.getfield 19, 3) := by decide +kernel
theorem dX12_digest_305 : decode cX12_digest 305 = .ok (.invokevirtual 317, 3) := by decide +kernel
theorem dX12_digest_308 : decode cX12_digest 308 = .ok (.aload_n 0, 1) := by decide +kernel
theorem dX12_digest_309 : decode cX12_digest 309 = .ok (.getfield 311, 3) := by decide +kernel
theorem dX12_digest_312 : decode cX12_digest 312 = .ok (.lreturn, 1) := by decide +kernel
