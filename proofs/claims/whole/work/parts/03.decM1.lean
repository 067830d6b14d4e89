theorem dX12_init_0 : decode cX12_init 0 = .ok (.aload_n 0, 1) := by decide +kernel
theorem dX12_init_1 : decode cX12_init 1 = .ok (.invokespecial 1, 3) := by decide +kernel
theorem dX12_init_4 : decode cX12_init 4 = .ok (.aload_n 0, 1) := by decide +kernel
theorem dX12_init_5 : decode cX12_init 5 = .ok (.bipush 113, 2) := by decide +kernel
theorem dX12_init_7 : decode cX12_init 7 = .ok (.newarray .int, 2) := by decide +kernel
theorem dX12_init_9 : decode cX12_init 9 = .ok (.putfield 7, 3) := by decide +kernel
theorem dX12_init_12 : decode cX12_init 12 = .ok (.aload_n 0, 1) := by decide +kernel
theorem dX12_init_13 : decode cX12_init 13 = .ok (.sipush 452, 3) := by decide +kernel
theorem dX12_init_16 : decode cX12_init 16 = .ok (.newarray .int, 2) := by decide +kernel
theorem dX12_init_18 : decode cX12_init 18 = .ok (.putfield 13, 3) := by decide +kernel
theorem dX12_init_21 : decode cX12_init 21 = .ok (.aload_n 0, 1) := by decide +kernel
theorem dX12_init_22 : decode cX12_init 22 = .ok (.bipush 100, 2) := by decide +kernel
theorem dX12_init_24 : decode cX12_init 24 = .ok (.newarray .int, 2) := by decide +kernel
theorem dX12_init_26 : decode cX12_init 26 = .ok (.putfield 16, 3) := by decide +kernel
theorem dX12_init_29 : decode cX12_init 29 = .ok (.aload_n 0, 1) := by decide +kernel
theorem dX12_init_30 : decode cX12_init 30 = .ok (.bipush (-9), 2) := by decide +kernel
theorem dX12_init_32 : decode cX12_init 32 = .ok (.putfield 19, 3) := by decide +kernel
theorem dX12_init_35 : decode cX12_init 35 = .ok (.aload_n 0, 1) := by decide +kernel
theorem dX12_init_36 : decode cX12_init 36 = .ok (.bipush 60, 2) := by decide +kernel
theorem dX12_init_38 : decode cX12_init 38 = .ok (.newarray .int, 2) := by decide +kernel
theorem dX12_init_40 : decode cX12_init 40 = .ok (.putfield 23, 3) := by decide +kernel
theorem dX12_init_43 : decode cX12_init 43 = .ok (.aload_n 0, 1) := by decide +kernel
theorem dX12_init_44 : decode cX12_init 44 = .ok (.bipush 6, 2) := by decide +kernel
theorem dX12_init_46 : decode cX12_init 46 = .ok (.newarray .boolean, 2) := by decide +kernel
theorem dX12_init_48 : decode cX12_init 48 = .ok (.putfield 26, 3) := by decide +kernel
theorem dX12_init_51 : decode cX12_init 51 = .ok (.aload_n 0, 1) := by decide +kernel
theorem dX12_init_52 : decode cX12_init 52 = .ok (.bipush 6, 2) := by decide +kernel
theorem dX12_init_54 : decode cX12_init 54 = .ok (.newarray .int, 2) := by decide +kernel
theorem dX12_init_56 : decode cX12_init 56 = .ok (.putfield 30, 3) := by decide +kernel
theorem dX12_init_59 : decode cX12_init 59 = .ok (.aload_n 0, 1) := by decide +kernel
theorem dX12_init_60 : decode cX12_init 60 = .ok (.bipush 6, 2) := by decide +kernel
theorem dX12_init_62 : decode cX12_init 62 = .ok (.newarray .boolean, 2) := by decide +kernel
theorem dX12_init_64 : decode cX12_init 64 = .ok (.putfield 33, 3) := by decide +kernel
theorem dX12_init_67 : decode cX12_init 67 = .ok (.aload_n 0, 1) := by decide +kernel
theorem dX12_init_68 : decode cX12_init 68 = .ok (.bipush 36, 2) := by decide +kernel
theorem dX12_init_70 : decode cX12_init 70 = .ok (.newarray .boolean, 2) := by decide +kernel
theorem dX12_init_72 : decode cX12_init 72 = .ok (.putfield 36, 3) := by decide +kernel
theorem dX12_init_75 : decode cX12_init 75 = .ok (.aload_n 0, 1) := by decide +kernel
theorem dX12_init_76 : decode cX12_init 76 = .ok (.bipush 36, 2) := by decide +kernel
theorem dX12_init_78 : decode cX12_init 78 = .ok (.newarray .boolean, 2) := by decide +kernel
theorem dX12_init_80 : decode cX12_init 80 = .ok (.putfield 39, 3) := by decide +kernel
theorem dX12_init_83 : decode cX12_init 83 = .ok (.aload_n 0, 1) := by decide +kernel
theorem dX12_init_84 : decode cX12_init 84 = .ok (.sipush 1296, 3) := by decide +kernel
theorem dX12_init_87 : decode cX12_init 87 = .ok (.newarray .boolean, 2) := by decide +kernel
theorem dX12_init_89 : decode cX12_init 89 = .ok (.putfield 42, 3) := by decide +kernel
theorem dX12_init_92 : decode cX12_init 92 = .ok (.aload_n 0, 1) := by decide +kernel
theorem dX12_init_93 : decode cX12_init 93 = .ok (.sipush 1296, 3) := by decide +kernel
theorem dX12_init_96 : decode cX12_init 96 = .ok (.newarray .boolean, 2) := by decide +kernel
theorem dX12_init_98 : decode cX12_init 98 = .ok (.putfield 45, 3) := by decide +kernel
theorem dX12_init_101 : decode cX12_init 101 = .ok (.aload_n 0, 1) := by decide +kernel
theorem dX12_init_102 : decode cX12_init 102 = .ok (.sipush 3456, 3) := by decide +kernel
theorem dX12_init_105 : decode cX12_init 105 = .ok (.newarray .boolean, 2) := by decide +kernel
theorem dX12_init_107 : decode cX12_init 107 = .ok (.putfield 48, 3) := by decide +kernel
theorem dX12_init_110 : decode cX12_init 110 = .ok (.aload_n 0, 1) := by decide +kernel
theorem dX12_init_111 : decode cX12_init 111 = .ok (.sipush 216, 3) := by decide +kernel
theorem dX12_init_114 : decode cX12_init 114 = .ok (.newarray .boolean, 2) := by decide +kernel
theorem dX12_init_116 : decode cX12_init 116 = .ok (.putfield 51, 3) := by decide +kernel
theorem dX12_init_119 : decode cX12_init 119 = .ok (.aload_n 0, 1) := by decide +kernel
theorem dX12_init_120 : decode cX12_init 120 = .ok (.sipush 216, 3) := by decide +kernel
theorem dX12_init_123 : decode cX12_init 123 = .ok (.newarray .boolean, 2) := by decide +kernel
theorem dX12_init_125 : decode cX12_init 125 = .ok (.putfield 54, 3) := by decide +kernel
theorem dX12_init_128 : decode cX12_init 128 = .ok (.aload_n 0, 1) := by decide +kernel
theorem dX12_init_129 : decode cX12_init 129 = .ok (.sipush 216, 3) := by decide +kernel
theorem dX12_init_132 : decode cX12_init 132 = .ok (.newarray .boolean, 2) := by decide +kernel
theorem dX12_init_134 : decode cX12_init 134 = .ok (.putfield 57, 3) := by decide +kernel
theorem dX12_init_137 : decode cX12_init 137 = .ok (.aload_n 0, 1) := by decide +kernel
theorem dX12_init_138 : decode cX12_init 138 = .ok (.sipush 24192, 3) := by decide +kernel
theorem dX12_init_141 : decode cX12_init 141 = .ok (.newarray .boolean, 2) := by decide +kernel
theorem dX12_init_143 : decode cX12_init 143 = .ok (.putfield 60, 3) := by decide +kernel
theorem dX12_init_146 : decode cX12_init 146 = .ok (.aload_n 0, 1) := by decide +kernel
theorem dX12_init_147 : decode cX12_init 147 = .ok (.bipush 113, 2) := by decide +kernel
theorem dX12_init_149 : decode cX12_init 149 = .ok (.newarray .int, 2) := by decide +kernel
theorem dX12_init_151 : decode cX12_init 151 = .ok (.putfield 63, 3) := by decide +kernel
theorem dX12_init_154 : decode cX12_init 154 = .ok (.aload_n 0, 1) := by decide +kernel
theorem dX12_init_155 : decode cX12_init 155 = .ok (.bipush 8, 2) := by decide +kernel
theorem dX12_init_157 : decode cX12_init 157 = .ok (.newarray .int, 2) := by decide +kernel
theorem dX12_init_159 : decode cX12_init 159 = .ok (.putfield 66, 3) := by decide +kernel
theorem dX12_init_162 : decode cX12_init 162 = .ok (.aload_n 0, 1) := by decide +kernel
theorem dX12_init_163 : decode cX12_init 163 = .ok (.sipush 900, 3) := by decide +kernel
theorem dX12_init_166 : decode cX12_init 166 = .ok (.newarray .int, 2) := by decide +kernel
theorem dX12_init_168 : decode cX12_init 168 = .ok (.putfield 69, 3) := by decide +kernel
theorem dX12_init_171 : decode cX12_init 171 = .ok (.aload_n 0, 1) := by decide +kernel
theorem dX12_init_172 : decode cX12_init 172 = .ok (.sipush 486, 3) := by decide +kernel
theorem dX12_init_175 : decode cX12_init 175 = .ok (.newarray .long, 2) := by decide +kernel
theorem dX12_init_177 : decode cX12_init 177 = .ok (.putfield 72, 3) := by decide +kernel
theorem dX12_init_180 : decode cX12_init 180 = .ok (.aload_n 0, 1) := by decide +kernel
theorem dX12_init_181 : decode cX12_init 181 = .ok (.bipush 9, 2) := by decide +kernel
theorem dX12_init_183 : decode cX12_init 183 = .ok (.newarray .long, 2) := by decide +kernel
theorem dX12_init_185 : decode cX12_init 185 = .ok (.putfield 76, 3) := by decide +kernel
theorem dX12_init_188 : decode cX12_init 188 = .ok (.aload_n 0, 1) := by decide +kernel
theorem dX12_init_189 : decode cX12_init 189 = .ok (.bipush 9, 2) := by decide +kernel
theorem dX12_init_191 : decode cX12_init 191 = .ok (.newarray .long, 2) := by decide +kernel
theorem dX12_init_193 : decode cX12_init 193 = .ok (.putfield 79, 3) := by decide +kernel
theorem dX12_init_196 : decode cX12_init 196 = .ok (.aload_n 0, 1) := by decide +kernel
theorem dX12_init_197 : decode cX12_init 197 = .ok (.bipush 6, 2) := by decide +kernel
theorem dX12_init_199 : decode cX12_init 199 = .ok (.newarray .long, 2) := by decide +kernel
theorem dX12_init_201 : decode cX12_init 201 = .ok (.putfield 82, 3) := by decide +kernel
theorem dX12_init_204 : decode cX12_init 204 = .ok (.aload_n 0, 1) := by decide +kernel
theorem dX12_init_205 : decode cX12_init 205 = .ok (.sipush 900, 3) := by decide +kernel
theorem dX12_init_208 : decode cX12_init 208 = .ok (.newarray .int, 2) := by decide +kernel
theorem dX12_init_210 : decode cX12_init 210 = .ok (.putfield 85, 3) := by decide +kernel
theorem dX12_init_213 : decode cX12_init 213 = .ok (.aload_n 0, 1) := by decide +kernel
theorem dX12_init_214 : decode cX12_init 214 = .ok (.sipush 8109, 3) := by decide +kernel
theorem dX12_init_217 : decode cX12_init 217 = .ok (.newarray .long, 2) := by decide +kernel
theorem dX12_init_219 : decode cX12_init 219 = .ok (.putfield 88, 3) := by decide +kernel
theorem dX12_init_222 : decode cX12_init 222 = .ok (.aload_n 0, 1) := by decide +kernel
theorem dX12_init_223 : decode cX12_init 223 = .ok (.getfield 7, 3) := by decide +kernel
theorem dX12_init_226 : decode cX12_init 226 = .ok (.iconst 0, 1) := by decide +kernel
theorem dX12_init_227 : decode cX12_init 227 = .ok (.iconst 1, 1) := by decide +kernel
theorem dX12_init_228 : decode cX12_init 228 = .ok (.iastore, 1) := by decide +kernel
theorem dX12_init_229 : decode cX12_init 229 = .ok (.aload_n 0, 1) := by decide +kernel
theorem dX12_init_230 : decode cX12_init 230 = .ok (.invokevirtual 91, 3) := by decide +kernel
theorem dX12_init_233 : decode cX12_init 233 = .ok (.return_, 1) := by decide +kernel
theorem dX12_in_0 : decode cX12_in 0 = .ok (.iload_n 0, 1) := by decide +kernel
theorem dX12_in_1 : decode cX12_in 1 = .ok (.iload_n 1, 1) := by decide +kernel
theorem dX12_in_2 : decode cX12_in 2 = .ok (.if_icmp .lt 12, 3) := by decide +kernel
theorem dX12_in_5 : decode cX12_in 5 = .ok (.iload_n 0, 1) := by decide +kernel
theorem dX12_in_6 : decode cX12_in 6 = .ok (.iload_n 2, 1) := by decide +kernel
theorem dX12_in_7 : decode cX12_in 7 = .ok (.if_icmp .gt 7, 3) := by decide +kernel
theorem dX12_in_10 : decode cX12_in 10 = .ok (.iconst 1, 1) := by decide +kernel
theorem dX12_in_11 : decode cX12_in 11 = .ok (.goto 4, 3) := by decide +kernel
theorem dX12_in_14 : decode cX12_in 14 = .ok (.iconst 0, 1) := by decide +kernel
theorem dX12_in_15 : decode cX12_in 15 = .ok (.ireturn, 1) := by decide +kernel
theorem dX12_many_0 : decode cX12_many 0 = .ok (.aload_n 0, 1) := by decide +kernel
theorem dX12_many_1 : decode cX12_many 1 = .ok (.getfield 7, 3) := by decide +kernel
theorem dX12_many_4 : decode cX12_many 4 = .ok (.iconst 0, 1) := by decide +kernel
theorem dX12_many_5 : decode cX12_many 5 = .ok (.iaload, 1) := by decide +kernel
theorem dX12_many_6 : decode cX12_many 6 = .ok (.ireturn, 1) := by decide +kernel
theorem dX12_left_0 : decode cX12_left 0 = .ok (.aload_n 0, 1) := by decide +kernel
theorem dX12_left_1 : decode cX12_left 1 = .ok (.getfield 7, 3) := by decide +kernel
theorem dX12_left_4 : decode cX12_left 4 = .ok (.iconst 1, 1) := by decide +kernel
theorem dX12_left_5 : decode cX12_left 5 = .ok (.iload_n 1, 1) := by decide +kernel
theorem dX12_left_6 : decode cX12_left 6 = .ok (.iadd, 1) := by decide +kernel
theorem dX12_left_7 : decode cX12_left 7 = .ok (.iaload, 1) := by decide +kernel
theorem dX12_left_8 : decode cX12_left 8 = .ok (.ireturn, 1) := by decide +kernel
theorem dX12_size_0 : decode cX12_size 0 = .ok (.aload_n 0, 1) := by decide +kernel
theorem dX12_size_1 : decode cX12_size 1 = .ok (.getfield 7, 3) := by decide +kernel
theorem dX12_size_4 : decode cX12_size 4 = .ok (.bipush 17, 2) := by decide +kernel
theorem dX12_size_6 : decode cX12_size 6 = .ok (.iload_n 1, 1) := by decide +kernel
theorem dX12_size_7 : decode cX12_size 7 = .ok (.iadd, 1) := by decide +kernel
theorem dX12_size_8 : decode cX12_size 8 = .ok (.iaload, 1) := by decide +kernel
theorem dX12_size_9 : decode cX12_size 9 = .ok (.ireturn, 1) := by decide +kernel
theorem dX12_at_0 : decode cX12_at 0 = .ok (.aload_n 0, 1) := by decide +kernel
theorem dX12_at_1 : decode cX12_at 1 = .ok (.getfield 7, 3) := by decide +kernel
theorem dX12_at_4 : decode cX12_at 4 = .ok (.bipush 33, 2) := by decide +kernel
theorem dX12_at_6 : decode cX12_at 6 = .ok (.iconst 5, 1) := by decide +kernel
theorem dX12_at_7 : decode cX12_at 7 = .ok (.iload_n 1, 1) := by decide +kernel
theorem dX12_at_8 : decode cX12_at 8 = .ok (.imul, 1) := by decide +kernel
theorem dX12_at_9 : decode cX12_at 9 = .ok (.iadd, 1) := by decide +kernel
theorem dX12_at_10 : decode cX12_at 10 = .ok (.iload_n 2, 1) := by decide +kernel
theorem dX12_at_11 : decode cX12_at 11 = .ok (.iadd, 1) := by decide +kernel
theorem dX12_at_12 : decode cX12_at 12 = .ok (.iaload, 1) := by decide +kernel
theorem dX12_at_13 : decode cX12_at 13 = .ok (.ireturn, 1) := by decide +kernel
theorem dX12_start_0 : decode cX12_start 0 = .ok (.aload_n 0, 1) := by decide +kernel
theorem dX12_start_1 : decode cX12_start 1 = .ok (.getfield 7, 3) := by decide +kernel
theorem dX12_start_4 : decode cX12_start 4 = .ok (.iconst 1, 1) := by decide +kernel
theorem dX12_start_5 : decode cX12_start 5 = .ok (.iaload, 1) := by decide +kernel
theorem dX12_start_6 : decode cX12_start 6 = .ok (.ireturn, 1) := by decide +kernel
theorem dX12_isProduction_0 : decode cX12_isProduction 0 = .ok (.iload_n 1, 1) := by decide +kernel
theorem dX12_isProduction_1 : decode cX12_isProduction 1 = .ok (.iconst 0, 1) := by decide +kernel
theorem dX12_isProduction_2 : decode cX12_isProduction 2 = .ok (.aload_n 0, 1) := by decide +kernel
theorem dX12_isProduction_3 : decode cX12_isProduction 3 = .ok (.invokevirtual 94, 3) := by decide +kernel
theorem dX12_isProduction_6 : decode cX12_isProduction 6 = .ok (.iconst 1, 1) := by decide +kernel
theorem dX12_isProduction_7 : decode cX12_isProduction 7 = .ok (.isub, 1) := by decide +kernel
theorem dX12_isProduction_8 : decode cX12_isProduction 8 = .ok (.invokestatic 98, 3) := by decide +kernel
theorem dX12_isProduction_11 : decode cX12_isProduction 11 = .ok (.ireturn, 1) := by decide +kernel
theorem dX12_productionsOf_0 : decode cX12_productionsOf 0 = .ok (.iconst 0, 1) := by decide +kernel
theorem dX12_productionsOf_1 : decode cX12_productionsOf 1 = .ok (.istore_n 2, 1) := by decide +kernel
theorem dX12_productionsOf_2 : decode cX12_productionsOf 2 = .ok (.iconst 0, 1) := by decide +kernel
theorem dX12_productionsOf_3 : decode cX12_productionsOf 3 = .ok (.istore_n 3, 1) := by decide +kernel
theorem dX12_productionsOf_4 : decode cX12_productionsOf 4 = .ok (.iload_n 3, 1) := by decide +kernel
theorem dX12_productionsOf_5 : decode cX12_productionsOf 5 = .ok (.aload_n 0, 1) := by decide +kernel
theorem dX12_productionsOf_6 : decode cX12_productionsOf 6 = .ok (.invokevirtual 94, 3) := by decide +kernel
theorem dX12_productionsOf_9 : decode cX12_productionsOf 9 = .ok (.if_icmp .ge 26, 3) := by decide +kernel
theorem dX12_productionsOf_12 : decode cX12_productionsOf 12 = .ok (.iload_n 2, 1) := by decide +kernel
theorem dX12_productionsOf_13 : decode cX12_productionsOf 13 = .ok (.aload_n 0, 1) := by decide +kernel
theorem dX12_productionsOf_14 : decode cX12_productionsOf 14 = .ok (.iload_n 3, 1) := by decide +kernel
theorem dX12_productionsOf_15 : decode cX12_productionsOf 15 = .ok (.invokevirtual 102, 3) := by decide +kernel
theorem dX12_productionsOf_18 : decode cX12_productionsOf 18 = .ok (.iload_n 1, 1) := by decide +kernel
theorem dX12_productionsOf_19 : decode cX12_productionsOf 19 = .ok (.if_icmp .ne 7, 3) := by decide +kernel
theorem dX12_productionsOf_22 : decode cX12_productionsOf 22 = .ok (.iconst 1, 1) := by decide +kernel
theorem dX12_productionsOf_23 : decode cX12_productionsOf 23 = .ok (.goto 4, 3) := by decide +kernel
theorem dX12_productionsOf_26 : decode cX12_productionsOf 26 = .ok (.iconst 0, 1) := by decide +kernel
theorem dX12_productionsOf_27 : decode cX12_productionsOf 27 = .ok (.iadd, 1) := by decide +kernel
theorem dX12_productionsOf_28 : decode cX12_productionsOf 28 = .ok (.istore_n 2, 1) := by decide +kernel
theorem dX12_productionsOf_29 : decode cX12_productionsOf 29 = .ok (.iinc 3 1, 3) := by decide +kernel
theorem dX12_productionsOf_32 : decode cX12_productionsOf 32 = .ok (.goto (-28), 3) := by decide +kernel
theorem dX12_productionsOf_35 : decode cX12_productionsOf 35 = .ok (.iload_n 2, 1) := by decide +kernel
theorem dX12_productionsOf_36 : decode cX12_productionsOf 36 = .ok (.ireturn, 1) := by decide +kernel
theorem dX12_isDefined_0 : decode cX12_isDefined 0 = .ok (.iload_n 1, 1) := by decide +kernel
theorem dX12_isDefined_1 : decode cX12_isDefined 1 = .ok (.iconst 0, 1) := by decide +kernel
theorem dX12_isDefined_2 : decode cX12_isDefined 2 = .ok (.iconst 5, 1) := by decide +kernel
theorem dX12_isDefined_3 : decode cX12_isDefined 3 = .ok (.invokestatic 98, 3) := by decide +kernel
theorem dX12_isDefined_6 : decode cX12_isDefined 6 = .ok (.ifCond .eq 15, 3) := by decide +kernel
theorem dX12_isDefined_9 : decode cX12_isDefined 9 = .ok (.aload_n 0, 1) := by decide +kernel
theorem dX12_isDefined_10 : decode cX12_isDefined 10 = .ok (.iload_n 1, 1) := by decide +kernel
theorem dX12_isDefined_11 : decode cX12_isDefined 11 = .ok (.invokevirtual 106, 3) := by decide +kernel
theorem dX12_isDefined_14 : decode cX12_isDefined 14 = .ok (.ifCond .le 7, 3) := by decide +kernel
theorem dX12_isDefined_17 : decode cX12_isDefined 17 = .ok (.iconst 1, 1) := by decide +kernel
theorem dX12_isDefined_18 : decode cX12_isDefined 18 = .ok (.goto 4, 3) := by decide +kernel
theorem dX12_isDefined_21 : decode cX12_isDefined 21 = .ok (.iconst 0, 1) := by decide +kernel
theorem dX12_isDefined_22 : decode cX12_isDefined 22 = .ok (.ireturn, 1) := by decide +kernel
theorem dX12_isEmpty_0 : decode cX12_isEmpty 0 = .ok (.iload_n 1, 1) := by decide +kernel
theorem dX12_isEmpty_1 : decode cX12_isEmpty 1 = .ok (.bipush 10, 2) := by decide +kernel
theorem dX12_isEmpty_3 : decode cX12_isEmpty 3 = .ok (.if_icmp .lt 19, 3) := by decide +kernel
theorem dX12_isEmpty_6 : decode cX12_isEmpty 6 = .ok (.aload_n 0, 1) := by decide +kernel
theorem dX12_isEmpty_7 : decode cX12_isEmpty 7 = .ok (.getfield 26, 3) := by decide +kernel
theorem dX12_isEmpty_10 : decode cX12_isEmpty 10 = .ok (.iload_n 1, 1) := by decide +kernel
theorem dX12_isEmpty_11 : decode cX12_isEmpty 11 = .ok (.bipush 10, 2) := by decide +kernel
theorem dX12_isEmpty_13 : decode cX12_isEmpty 13 = .ok (.isub, 1) := by decide +kernel
theorem dX12_isEmpty_14 : decode cX12_isEmpty 14 = .ok (.baload, 1) := by decide +kernel
theorem dX12_isEmpty_15 : decode cX12_isEmpty 15 = .ok (.ifCond .eq 7, 3) := by decide +kernel
theorem dX12_isEmpty_18 : decode cX12_isEmpty 18 = .ok (.iconst 1, 1) := by decide +kernel
theorem dX12_isEmpty_19 : decode cX12_isEmpty 19 = .ok (.goto 4, 3) := by decide +kernel
theorem dX12_isEmpty_22 : decode cX12_isEmpty 22 = .ok (.iconst 0, 1) := by decide +kernel
theorem dX12_isEmpty_23 : decode cX12_isEmpty 23 = .ok (.ireturn, 1) := by decide +kernel
theorem dX12_areEmpty_0 : decode cX12_areEmpty 0 = .ok (.iconst 1, 1) := by decide +kernel
theorem dX12_areEmpty_1 : decode cX12_areEmpty 1 = .ok (.istore 4, 2) := by decide +kernel
theorem dX12_areEmpty_3 : decode cX12_areEmpty 3 = .ok (.iload_n 2, 1) := by decide +kernel
theorem dX12_areEmpty_4 : decode cX12_areEmpty 4 = .ok (.istore 5, 2) := by decide +kernel
theorem dX12_areEmpty_6 : decode cX12_areEmpty 6 = .ok (.iload 5, 2) := by decide +kernel
theorem dX12_areEmpty_8 : decode cX12_areEmpty 8 = .ok (.iload_n 3, 1) := by decide +kernel
theorem dX12_areEmpty_9 : decode cX12_areEmpty 9 = .ok (.if_icmp .ge 35, 3) := by decide +kernel
theorem dX12_areEmpty_12 : decode cX12_areEmpty 12 = .ok (.iload 4, 2) := by decide +kernel
theorem dX12_areEmpty_14 : decode cX12_areEmpty 14 = .ok (.ifCond .eq 21, 3) := by decide +kernel
theorem dX12_areEmpty_17 : decode cX12_areEmpty 17 = .ok (.aload_n 0, 1) := by decide +kernel
theorem dX12_areEmpty_18 : decode cX12_areEmpty 18 = .ok (.aload_n 0, 1) := by decide +kernel
theorem dX12_areEmpty_19 : decode cX12_areEmpty 19 = .ok (.iload_n 1, 1) := by decide +kernel
theorem dX12_areEmpty_20 : decode cX12_areEmpty 20 = .ok (.iload 5, 2) := by decide +kernel
theorem dX12_areEmpty_22 : decode cX12_areEmpty 22 = .ok (.invokevirtual 109, 3) := by decide +kernel
theorem dX12_areEmpty_25 : decode cX12_areEmpty 25 = .ok (.invokevirtual 113, 3) := by decide +kernel
theorem dX12_areEmpty_28 : decode cX12_areEmpty 28 = .ok (.ifCond .eq 7, 3) := by decide +kernel
theorem dX12_areEmpty_31 : decode cX12_areEmpty 31 = .ok (.iconst 1, 1) := by decide +kernel
theorem dX12_areEmpty_32 : decode cX12_areEmpty 32 = .ok (.goto 4, 3) := by decide +kernel
theorem dX12_areEmpty_35 : decode cX12_areEmpty 35 = .ok (.iconst 0, 1) := by decide +kernel
theorem dX12_areEmpty_36 : decode cX12_areEmpty 36 = .ok (.istore 4, 2) := by decide +kernel
theorem dX12_areEmpty_38 : decode cX12_areEmpty 38 = .ok (.iinc 5 1, 3) := by decide +kernel
theorem dX12_areEmpty_41 : decode cX12_areEmpty 41 = .ok (.goto (-35), 3) := by decide +kernel
theorem dX12_areEmpty_44 : decode cX12_areEmpty 44 = .ok (.iload 4, 2) := by decide +kernel
theorem dX12_areEmpty_46 : decode cX12_areEmpty 46 = .ok (.ireturn, 1) := by decide +kernel
theorem dX12_laysEmpty_0 : decode cX12_laysEmpty 0 = .ok (.iconst 0, 1) := by decide +kernel
theorem dX12_laysEmpty_1 : decode cX12_laysEmpty 1 = .ok (.istore_n 1, 1) := by decide +kernel
theorem dX12_laysEmpty_2 : decode cX12_laysEmpty 2 = .ok (.iload_n 1, 1) := by decide +kernel
theorem dX12_laysEmpty_3 : decode cX12_laysEmpty 3 = .ok (.bipush 6, 2) := by decide +kernel
theorem dX12_laysEmpty_5 : decode cX12_laysEmpty 5 = .ok (.if_icmp .ge 16, 3) := by decide +kernel
theorem dX12_laysEmpty_8 : decode cX12_laysEmpty 8 = .ok (.aload_n 0, 1) := by decide +kernel
theorem dX12_laysEmpty_9 : decode cX12_laysEmpty 9 = .ok (.getfield 26, 3) := by decide +kernel
theorem dX12_laysEmpty_12 : decode cX12_laysEmpty 12 = .ok (.iload_n 1, 1) := by decide +kernel
theorem dX12_laysEmpty_13 : decode cX12_laysEmpty 13 = .ok (.iconst 0, 1) := by decide +kernel
theorem dX12_laysEmpty_14 : decode cX12_laysEmpty 14 = .ok (.bastore, 1) := by decide +kernel
theorem dX12_laysEmpty_15 : decode cX12_laysEmpty 15 = .ok (.iinc 1 1, 3) := by decide +kernel
theorem dX12_laysEmpty_18 : decode cX12_laysEmpty 18 = .ok (.goto (-16), 3) := by decide +kernel
theorem dX12_laysEmpty_21 : decode cX12_laysEmpty 21 = .ok (.iconst 0, 1) := by decide +kernel
theorem dX12_laysEmpty_22 : decode cX12_laysEmpty 22 = .ok (.istore_n 1, 1) := by decide +kernel
theorem dX12_laysEmpty_23 : decode cX12_laysEmpty 23 = .ok (.iload_n 1, 1) := by decide +kernel
theorem dX12_laysEmpty_24 : decode cX12_laysEmpty 24 = .ok (.bipush 6, 2) := by decide +kernel
theorem dX12_laysEmpty_26 : decode cX12_laysEmpty 26 = .ok (.if_icmp .ge 67, 3) := by decide +kernel
theorem dX12_laysEmpty_29 : decode cX12_laysEmpty 29 = .ok (.iconst 0, 1) := by decide +kernel
theorem dX12_laysEmpty_30 : decode cX12_laysEmpty 30 = .ok (.istore_n 2, 1) := by decide +kernel
theorem dX12_laysEmpty_31 : decode cX12_laysEmpty 31 = .ok (.iload_n 2, 1) := by decide +kernel
theorem dX12_laysEmpty_32 : decode cX12_laysEmpty 32 = .ok (.aload_n 0, 1) := by decide +kernel
theorem dX12_laysEmpty_33 : decode cX12_laysEmpty 33 = .ok (.invokevirtual 94, 3) := by decide +kernel
theorem dX12_laysEmpty_36 : decode cX12_laysEmpty 36 = .ok (.if_icmp .ge 51, 3) := by decide +kernel
theorem dX12_laysEmpty_39 : decode cX12_laysEmpty 39 = .ok (.aload_n 0, 1) := by decide +kernel
theorem dX12_laysEmpty_40 : decode cX12_laysEmpty 40 = .ok (.getfield 26, 3) := by decide +kernel
theorem dX12_laysEmpty_43 : decode cX12_laysEmpty 43 = .ok (.aload_n 0, 1) := by decide +kernel
theorem dX12_laysEmpty_44 : decode cX12_laysEmpty 44 = .ok (.iload_n 2, 1) := by decide +kernel
theorem dX12_laysEmpty_45 : decode cX12_laysEmpty 45 = .ok (.invokevirtual 102, 3) := by decide +kernel
theorem dX12_laysEmpty_48 : decode cX12_laysEmpty 48 = .ok (.aload_n 0, 1) := by decide +kernel
theorem dX12_laysEmpty_49 : decode cX12_laysEmpty 49 = .ok (.getfield 26, 3) := by decide +kernel
theorem dX12_laysEmpty_52 : decode cX12_laysEmpty 52 = .ok (.aload_n 0, 1) := by decide +kernel
theorem dX12_laysEmpty_53 : decode cX12_laysEmpty 53 = .ok (.iload_n 2, 1) := by decide +kernel
theorem dX12_laysEmpty_54 : decode cX12_laysEmpty 54 = .ok (.invokevirtual 102, 3) := by decide +kernel
theorem dX12_laysEmpty_57 : decode cX12_laysEmpty 57 = .ok (.baload, 1) := by decide +kernel
theorem dX12_laysEmpty_58 : decode cX12_laysEmpty 58 = .ok (.ifCond .ne 17, 3) := by decide +kernel
theorem dX12_laysEmpty_61 : decode cX12_laysEmpty 61 = .ok (.aload_n 0, 1) := by decide +kernel
theorem dX12_laysEmpty_62 : decode cX12_laysEmpty 62 = .ok (.iload_n 2, 1) := by decide +kernel
theorem dX12_laysEmpty_63 : decode cX12_laysEmpty 63 = .ok (.iconst 0, 1) := by decide +kernel
theorem dX12_laysEmpty_64 : decode cX12_laysEmpty 64 = .ok (.aload_n 0, 1) := by decide +kernel
theorem dX12_laysEmpty_65 : decode cX12_laysEmpty 65 = .ok (.iload_n 2, 1) := by decide +kernel
theorem dX12_laysEmpty_66 : decode cX12_laysEmpty 66 = .ok (.invokevirtual 117, 3) := by decide +kernel
theorem dX12_laysEmpty_69 : decode cX12_laysEmpty 69 = .ok (.invokevirtual 120, 3) := by decide +kernel
theorem dX12_laysEmpty_72 : decode cX12_laysEmpty 72 = .ok (.ifCond .eq 7, 3) := by decide +kernel
theorem dX12_laysEmpty_75 : decode cX12_laysEmpty 75 = .ok (.iconst 1, 1) := by decide +kernel
theorem dX12_laysEmpty_76 : decode cX12_laysEmpty 76 = .ok (.goto 4, 3) := by decide +kernel
theorem dX12_laysEmpty_79 : decode cX12_laysEmpty 79 = .ok (.iconst 0, 1) := by decide +kernel
theorem dX12_laysEmpty_80 : decode cX12_laysEmpty 80 = .ok (.bastore, 1) := by decide +kernel
theorem dX12_laysEmpty_81 : decode cX12_laysEmpty 81 = .ok (.iinc 2 1, 3) := by decide +kernel
theorem dX12_laysEmpty_84 : decode cX12_laysEmpty 84 = .ok (.goto (-53), 3) := by decide +kernel
theorem dX12_laysEmpty_87 : decode cX12_laysEmpty 87 = .ok (.iinc 1 1, 3) := by decide +kernel
theorem dX12_laysEmpty_90 : decode cX12_laysEmpty 90 = .ok (.goto (-67), 3) := by decide +kernel
theorem dX12_laysEmpty_93 : decode cX12_laysEmpty 93 = .ok (.return_, 1) := by decide +kernel
theorem dX12_laysFewest_0 : decode cX12_laysFewest 0 = .ok (.iconst 0, 1) := by decide +kernel
theorem dX12_laysFewest_1 : decode cX12_laysFewest 1 = .ok (.istore_n 1, 1) := by decide +kernel
theorem dX12_laysFewest_2 : decode cX12_laysFewest 2 = .ok (.iload_n 1, 1) := by decide +kernel
theorem dX12_laysFewest_3 : decode cX12_laysFewest 3 = .ok (.bipush 6, 2) := by decide +kernel
theorem dX12_laysFewest_5 : decode cX12_laysFewest 5 = .ok (.if_icmp .ge 17, 3) := by decide +kernel
theorem dX12_laysFewest_8 : decode cX12_laysFewest 8 = .ok (.aload_n 0, 1) := by decide +kernel
theorem dX12_laysFewest_9 : decode cX12_laysFewest 9 = .ok (.getfield 30, 3) := by decide +kernel
theorem dX12_laysFewest_12 : decode cX12_laysFewest 12 = .ok (.iload_n 1, 1) := by decide +kernel
theorem dX12_laysFewest_13 : decode cX12_laysFewest 13 = .ok (.ldc 123, 2) := by decide +kernel
theorem dX12_laysFewest_15 : decode cX12_laysFewest 15 = .ok (.iastore, 1) := by decide +kernel
theorem dX12_laysFewest_16 : decode cX12_laysFewest 16 = .ok (.iinc 1 1, 3) := by decide +kernel
theorem dX12_laysFewest_19 : decode cX12_laysFewest 19 = .ok (.goto (-17), 3) := by decide +kernel
theorem dX12_laysFewest_22 : decode cX12_laysFewest 22 = .ok (.iconst 0, 1) := by decide +kernel
theorem dX12_laysFewest_23 : decode cX12_laysFewest 23 = .ok (.istore_n 1, 1) := by decide +kernel
theorem dX12_laysFewest_24 : decode cX12_laysFewest 24 = .ok (.iload_n 1, 1) := by decide +kernel
theorem dX12_laysFewest_25 : decode cX12_laysFewest 25 = .ok (.bipush 6, 2) := by decide +kernel
theorem dX12_laysFewest_27 : decode cX12_laysFewest 27 = .ok (.if_icmp .ge 122, 3) := by decide +kernel
theorem dX12_laysFewest_30 : decode cX12_laysFewest 30 = .ok (.iconst 0, 1) := by decide +kernel
theorem dX12_laysFewest_31 : decode cX12_laysFewest 31 = .ok (.istore_n 2, 1) := by decide +kernel
theorem dX12_laysFewest_32 : decode cX12_laysFewest 32 = .ok (.iload_n 2, 1) := by decide +kernel
theorem dX12_laysFewest_33 : decode cX12_laysFewest 33 = .ok (.aload_n 0, 1) := by decide +kernel
theorem dX12_laysFewest_34 : decode cX12_laysFewest 34 = .ok (.invokevirtual 94, 3) := by decide +kernel
theorem dX12_laysFewest_37 : decode cX12_laysFewest 37 = .ok (.if_icmp .ge 106, 3) := by decide +kernel
theorem dX12_laysFewest_40 : decode cX12_laysFewest 40 = .ok (.lconst 0, 1) := by decide +kernel
theorem dX12_laysFewest_41 : decode cX12_laysFewest 41 = .ok (.lstore_n 3, 1) := by decide +kernel
theorem dX12_laysFewest_42 : decode cX12_laysFewest 42 = .ok (.iconst 0, 1) := by decide +kernel
theorem dX12_laysFewest_43 : decode cX12_laysFewest 43 = .ok (.istore 5, 2) := by decide +kernel
theorem dX12_laysFewest_45 : decode cX12_laysFewest 45 = .ok (.iload 5, 2) := by decide +kernel
theorem dX12_laysFewest_47 : decode cX12_laysFewest 47 = .ok (.aload_n 0, 1) := by decide +kernel
theorem dX12_laysFewest_48 : decode cX12_laysFewest 48 = .ok (.iload_n 2, 1) := by decide +kernel
theorem dX12_laysFewest_49 : decode cX12_laysFewest 49 = .ok (.invokevirtual 117, 3) := by decide +kernel
theorem dX12_laysFewest_52 : decode cX12_laysFewest 52 = .ok (.if_icmp .ge 44, 3) := by decide +kernel
theorem dX12_laysFewest_55 : decode cX12_laysFewest 55 = .ok (.lload_n 3, 1) := by decide +kernel
theorem dX12_laysFewest_56 : decode cX12_laysFewest 56 = .ok (.aload_n 0, 1) := by decide +kernel
theorem dX12_laysFewest_57 : decode cX12_laysFewest 57 = .ok (.iload_n 2, 1) := by decide +kernel
theorem dX12_laysFewest_58 : decode cX12_laysFewest 58 = .ok (.iload 5, 2) := by decide +kernel
theorem dX12_laysFewest_60 : decode cX12_laysFewest 60 = .ok (.invokevirtual 109, 3) := by decide +kernel
theorem dX12_laysFewest_63 : decode cX12_laysFewest 63 = .ok (.bipush 10, 2) := by decide +kernel
theorem dX12_laysFewest_65 : decode cX12_laysFewest 65 = .ok (.if_icmp .ge 7, 3) := by decide +kernel
theorem dX12_laysFewest_68 : decode cX12_laysFewest 68 = .ok (.lconst 1, 1) := by decide +kernel
theorem dX12_laysFewest_69 : decode cX12_laysFewest 69 = .ok (.goto 19, 3) := by decide +kernel
theorem dX12_laysFewest_72 : decode cX12_laysFewest 72 = .ok (.aload_n 0, 1) := by decide +kernel
theorem dX12_laysFewest_73 : decode cX12_laysFewest 73 = .ok (.getfield 30, 3) := by decide +kernel
theorem dX12_laysFewest_76 : decode cX12_laysFewest 76 = .ok (.aload_n 0, 1) := by decide +kernel
theorem dX12_laysFewest_77 : decode cX12_laysFewest 77 = .ok (.iload_n 2, 1) := by decide +kernel
theorem dX12_laysFewest_78 : decode cX12_laysFewest 78 = .ok (.iload 5, 2) := by decide +kernel
theorem dX12_laysFewest_80 : decode cX12_laysFewest 80 = .ok (.invokevirtual 109, 3) := by decide +kernel
theorem dX12_laysFewest_83 : decode cX12_laysFewest 83 = .ok (.bipush 10, 2) := by decide +kernel
theorem dX12_laysFewest_85 : decode cX12_laysFewest 85 = .ok (.isub, 1) := by decide +kernel
theorem dX12_laysFewest_86 : decode cX12_laysFewest 86 = .ok (.iaload, 1) := by decide +kernel
theorem dX12_laysFewest_87 : decode cX12_laysFewest 87 = .ok (.i2l, 1) := by decide +kernel
theorem dX12_laysFewest_88 : decode cX12_laysFewest 88 = .ok (.ladd, 1) := by decide +kernel
theorem dX12_laysFewest_89 : decode cX12_laysFewest 89 = .ok (.lstore_n 3, 1) := by decide +kernel
theorem dX12_laysFewest_90 : decode cX12_laysFewest 90 = .ok (.iinc 5 1, 3) := by decide +kernel
theorem dX12_laysFewest_93 : decode cX12_laysFewest 93 = .ok (.goto (-48), 3) := by decide +kernel
theorem dX12_laysFewest_96 : decode cX12_laysFewest 96 = .ok (.aload_n 0, 1) := by decide +kernel
theorem dX12_laysFewest_97 : decode cX12_laysFewest 97 = .ok (.getfield 30, 3) := by decide +kernel
theorem dX12_laysFewest_100 : decode cX12_laysFewest 100 = .ok (.aload_n 0, 1) := by decide +kernel
theorem dX12_laysFewest_101 : decode cX12_laysFewest 101 = .ok (.iload_n 2, 1) := by decide +kernel
theorem dX12_laysFewest_102 : decode cX12_laysFewest 102 = .ok (.invokevirtual 102, 3) := by decide +kernel
theorem dX12_laysFewest_105 : decode cX12_laysFewest 105 = .ok (.lload_n 3, 1) := by decide +kernel
theorem dX12_laysFewest_106 : decode cX12_laysFewest 106 = .ok (.aload_n 0, 1) := by decide +kernel
theorem dX12_laysFewest_107 : decode cX12_laysFewest 107 = .ok (.getfield 30, 3) := by decide +kernel
theorem dX12_laysFewest_110 : decode cX12_laysFewest 110 = .ok (.aload_n 0, 1) := by decide +kernel
theorem dX12_laysFewest_111 : decode cX12_laysFewest 111 = .ok (.iload_n 2, 1) := by decide +kernel
theorem dX12_laysFewest_112 : decode cX12_laysFewest 112 = .ok (.invokevirtual 102, 3) := by decide +kernel
theorem dX12_laysFewest_115 : decode cX12_laysFewest 115 = .ok (.iaload, 1) := by decide +kernel
theorem dX12_laysFewest_116 : decode cX12_laysFewest 116 = .ok (.i2l, 1) := by decide +kernel
theorem dX12_laysFewest_117 : decode cX12_laysFewest 117 = .ok (.lcmp, 1) := by decide +kernel
theorem dX12_laysFewest_118 : decode cX12_laysFewest 118 = .ok (.ifCond .ge 8, 3) := by decide +kernel
theorem dX12_laysFewest_121 : decode cX12_laysFewest 121 = .ok (.lload_n 3, 1) := by decide +kernel
theorem dX12_laysFewest_122 : decode cX12_laysFewest 122 = .ok (.l2i, 1) := by decide +kernel
theorem dX12_laysFewest_123 : decode cX12_laysFewest 123 = .ok (.goto 13, 3) := by decide +kernel
theorem dX12_laysFewest_126 : decode cX12_laysFewest 126 = .ok (.aload_n 0, 1) := by decide +kernel
theorem dX12_laysFewest_127 : decode cX12_laysFewest 127 = .ok (.getfield 30, 3) := by decide +kernel
theorem dX12_laysFewest_130 : decode cX12_laysFewest 130 = .ok (.aload_n 0, 1) := by decide +kernel
theorem dX12_laysFewest_131 : decode cX12_laysFewest 131 = .ok (.iload_n 2, 1) := by decide +kernel
theorem dX12_laysFewest_132 : decode cX12_laysFewest 132 = .ok (.invokevirtual 102, 3) := by decide +kernel
theorem dX12_laysFewest_135 : decode cX12_laysFewest 135 = .ok (.iaload, 1) := by decide +kernel
theorem dX12_laysFewest_136 : decode cX12_laysFewest 136 = .ok (.iastore, 1) := by decide +kernel
theorem dX12_laysFewest_137 : decode cX12_laysFewest 137 = .ok (.iinc 2 1, 3) := by decide +kernel
theorem dX12_laysFewest_140 : decode cX12_laysFewest 140 = .ok (.goto (-108), 3) := by decide +kernel
theorem dX12_laysFewest_143 : decode cX12_laysFewest 143 = .ok (.iinc 1 1, 3) := by decide +kernel
theorem dX12_laysFewest_146 : decode cX12_laysFewest 146 = .ok (.goto (-122), 3) := by decide +kernel
theorem dX12_laysFewest_149 : decode cX12_laysFewest 149 = .ok (.return_, 1) := by decide +kernel
theorem dX12_laysReached_0 : decode cX12_laysReached 0 = .ok (.iconst 0, 1) := by decide +kernel
theorem dX12_laysReached_1 : decode cX12_laysReached 1 = .ok (.istore_n 1, 1) := by decide +kernel
theorem dX12_laysReached_2 : decode cX12_laysReached 2 = .ok (.iload_n 1, 1) := by decide +kernel
theorem dX12_laysReached_3 : decode cX12_laysReached 3 = .ok (.bipush 6, 2) := by decide +kernel
theorem dX12_laysReached_5 : decode cX12_laysReached 5 = .ok (.if_icmp .ge 28, 3) := by decide +kernel
theorem dX12_laysReached_8 : decode cX12_laysReached 8 = .ok (.aload_n 0, 1) := by decide +kernel
theorem dX12_laysReached_9 : decode cX12_laysReached 9 = .ok (.getfield 33, 3) := by decide +kernel
theorem dX12_laysReached_12 : decode cX12_laysReached 12 = .ok (.iload_n 1, 1) := by decide +kernel
theorem dX12_laysReached_13 : decode cX12_laysReached 13 = .ok (.iload_n 1, 1) := by decide +kernel
theorem dX12_laysReached_14 : decode cX12_laysReached 14 = .ok (.aload_n 0, 1) := by decide +kernel
theorem dX12_laysReached_15 : decode cX12_laysReached 15 = .ok (.invokevirtual 124, 3) := by decide +kernel
theorem dX12_laysReached_18 : decode cX12_laysReached 18 = .ok (.if_icmp .ne 7, 3) := by decide +kernel
theorem dX12_laysReached_21 : decode cX12_laysReached 21 = .ok (.iconst 1, 1) := by decide +kernel
theorem dX12_laysReached_22 : decode cX12_laysReached 22 = .ok (.goto 4, 3) := by decide +kernel
theorem dX12_laysReached_25 : decode cX12_laysReached 25 = .ok (.iconst 0, 1) := by decide +kernel
theorem dX12_laysReached_26 : decode cX12_laysReached 26 = .ok (.bastore, 1) := by decide +kernel
theorem dX12_laysReached_27 : decode cX12_laysReached 27 = .ok (.iinc 1 1, 3) := by decide +kernel
theorem dX12_laysReached_30 : decode cX12_laysReached 30 = .ok (.goto (-28), 3) := by decide +kernel
theorem dX12_laysReached_33 : decode cX12_laysReached 33 = .ok (.iconst 0, 1) := by decide +kernel
theorem dX12_laysReached_34 : decode cX12_laysReached 34 = .ok (.istore_n 1, 1) := by decide +kernel
theorem dX12_laysReached_35 : decode cX12_laysReached 35 = .ok (.iload_n 1, 1) := by decide +kernel
theorem dX12_laysReached_36 : decode cX12_laysReached 36 = .ok (.bipush 6, 2) := by decide +kernel
theorem dX12_laysReached_38 : decode cX12_laysReached 38 = .ok (.if_icmp .ge 81, 3) := by decide +kernel
theorem dX12_laysReached_41 : decode cX12_laysReached 41 = .ok (.iconst 0, 1) := by decide +kernel
theorem dX12_laysReached_42 : decode cX12_laysReached 42 = .ok (.istore_n 2, 1) := by decide +kernel
theorem dX12_laysReached_43 : decode cX12_laysReached 43 = .ok (.iload_n 2, 1) := by decide +kernel
theorem dX12_laysReached_44 : decode cX12_laysReached 44 = .ok (.aload_n 0, 1) := by decide +kernel
theorem dX12_laysReached_45 : decode cX12_laysReached 45 = .ok (.invokevirtual 94, 3) := by decide +kernel
theorem dX12_laysReached_48 : decode cX12_laysReached 48 = .ok (.if_icmp .ge 65, 3) := by decide +kernel
theorem dX12_laysReached_51 : decode cX12_laysReached 51 = .ok (.iconst 0, 1) := by decide +kernel
theorem dX12_laysReached_52 : decode cX12_laysReached 52 = .ok (.istore_n 3, 1) := by decide +kernel
theorem dX12_laysReached_53 : decode cX12_laysReached 53 = .ok (.iload_n 3, 1) := by decide +kernel
theorem dX12_laysReached_54 : decode cX12_laysReached 54 = .ok (.aload_n 0, 1) := by decide +kernel
theorem dX12_laysReached_55 : decode cX12_laysReached 55 = .ok (.iload_n 2, 1) := by decide +kernel
theorem dX12_laysReached_56 : decode cX12_laysReached 56 = .ok (.invokevirtual 117, 3) := by decide +kernel
theorem dX12_laysReached_59 : decode cX12_laysReached 59 = .ok (.if_icmp .ge 48, 3) := by decide +kernel
theorem dX12_laysReached_62 : decode cX12_laysReached 62 = .ok (.aload_n 0, 1) := by decide +kernel
theorem dX12_laysReached_63 : decode cX12_laysReached 63 = .ok (.getfield 33, 3) := by decide +kernel
theorem dX12_laysReached_66 : decode cX12_laysReached 66 = .ok (.aload_n 0, 1) := by decide +kernel
theorem dX12_laysReached_67 : decode cX12_laysReached 67 = .ok (.iload_n 2, 1) := by decide +kernel
theorem dX12_laysReached_68 : decode cX12_laysReached 68 = .ok (.invokevirtual 102, 3) := by decide +kernel
theorem dX12_laysReached_71 : decode cX12_laysReached 71 = .ok (.baload, 1) := by decide +kernel
theorem dX12_laysReached_72 : decode cX12_laysReached 72 = .ok (.ifCond .eq 35, 3) := by decide +kernel
theorem dX12_laysReached_75 : decode cX12_laysReached 75 = .ok (.aload_n 0, 1) := by decide +kernel
theorem dX12_laysReached_76 : decode cX12_laysReached 76 = .ok (.iload_n 2, 1) := by decide +kernel
theorem dX12_laysReached_77 : decode cX12_laysReached 77 = .ok (.iload_n 3, 1) := by decide +kernel
theorem dX12_laysReached_78 : decode cX12_laysReached 78 = .ok (.invokevirtual 109, 3) := by decide +kernel
theorem dX12_laysReached_81 : decode cX12_laysReached 81 = .ok (.bipush 10, 2) := by decide +kernel
theorem dX12_laysReached_83 : decode cX12_laysReached 83 = .ok (.if_icmp .lt 18, 3) := by decide +kernel
theorem dX12_laysReached_86 : decode cX12_laysReached 86 = .ok (.aload_n 0, 1) := by decide +kernel
theorem dX12_laysReached_87 : decode cX12_laysReached 87 = .ok (.getfield 33, 3) := by decide +kernel
theorem dX12_laysReached_90 : decode cX12_laysReached 90 = .ok (.aload_n 0, 1) := by decide +kernel
theorem dX12_laysReached_91 : decode cX12_laysReached 91 = .ok (.iload_n 2, 1) := by decide +kernel
theorem dX12_laysReached_92 : decode cX12_laysReached 92 = .ok (.iload_n 3, 1) := by decide +kernel
theorem dX12_laysReached_93 : decode cX12_laysReached 93 = .ok (.invokevirtual 109, 3) := by decide +kernel
theorem dX12_laysReached_96 : decode cX12_laysReached 96 = .ok (.bipush 10, 2) := by decide +kernel
theorem dX12_laysReached_98 : decode cX12_laysReached 98 = .ok (.isub, 1) := by decide +kernel
theorem dX12_laysReached_99 : decode cX12_laysReached 99 = .ok (.iconst 1, 1) := by decide +kernel
theorem dX12_laysReached_100 : decode cX12_laysReached 100 = .ok (.bastore, 1) := by decide +kernel
theorem dX12_laysReached_101 : decode cX12_laysReached 101 = .ok (.iinc 3 1, 3) := by decide +kernel
theorem dX12_laysReached_104 : decode cX12_laysReached 104 = .ok (.goto (-51), 3) := by decide +kernel
theorem dX12_laysReached_107 : decode cX12_laysReached 107 = .ok (.iinc 2 1, 3) := by decide +kernel
theorem dX12_laysReached_110 : decode cX12_laysReached 110 = .ok (.goto (-67), 3) := by decide +kernel
theorem dX12_laysReached_113 : decode cX12_laysReached 113 = .ok (.iinc 1 1, 3) := by decide +kernel
theorem dX12_laysReached_116 : decode cX12_laysReached 116 = .ok (.goto (-81), 3) := by decide +kernel
theorem dX12_laysReached_119 : decode cX12_laysReached 119 = .ok (.return_, 1) := by decide +kernel
theorem dX12_closes_0 : decode cX12_closes 0 = .ok (.iconst 0, 1) := by decide +kernel
theorem dX12_closes_1 : decode cX12_closes 1 = .ok (.istore_n 1, 1) := by decide +kernel
theorem dX12_closes_2 : decode cX12_closes 2 = .ok (.iload_n 1, 1) := by decide +kernel
theorem dX12_closes_3 : decode cX12_closes 3 = .ok (.bipush 6, 2) := by decide +kernel
theorem dX12_closes_5 : decode cX12_closes 5 = .ok (.if_icmp .ge 65, 3) := by decide +kernel
theorem dX12_closes_8 : decode cX12_closes 8 = .ok (.iconst 0, 1) := by decide +kernel
theorem dX12_closes_9 : decode cX12_closes 9 = .ok (.istore_n 2, 1) := by decide +kernel
theorem dX12_closes_10 : decode cX12_closes 10 = .ok (.iload_n 2, 1) := by decide +kernel
theorem dX12_closes_11 : decode cX12_closes 11 = .ok (.bipush 36, 2) := by decide +kernel
theorem dX12_closes_13 : decode cX12_closes 13 = .ok (.if_icmp .ge 51, 3) := by decide +kernel
theorem dX12_closes_16 : decode cX12_closes 16 = .ok (.aload_n 0, 1) := by decide +kernel
theorem dX12_closes_17 : decode cX12_closes 17 = .ok (.iload_n 2, 1) := by decide +kernel
theorem dX12_closes_18 : decode cX12_closes 18 = .ok (.aload_n 0, 1) := by decide +kernel
theorem dX12_closes_19 : decode cX12_closes 19 = .ok (.iload_n 2, 1) := by decide +kernel
theorem dX12_closes_20 : decode cX12_closes 20 = .ok (.baload, 1) := by decide +kernel
theorem dX12_closes_21 : decode cX12_closes 21 = .ok (.ifCond .ne 31, 3) := by decide +kernel
theorem dX12_closes_24 : decode cX12_closes 24 = .ok (.aload_n 0, 1) := by decide +kernel
theorem dX12_closes_25 : decode cX12_closes 25 = .ok (.bipush 6, 2) := by decide +kernel
theorem dX12_closes_27 : decode cX12_closes 27 = .ok (.iload_n 2, 1) := by decide +kernel
theorem dX12_closes_28 : decode cX12_closes 28 = .ok (.bipush 6, 2) := by decide +kernel
theorem dX12_closes_30 : decode cX12_closes 30 = .ok (.idiv, 1) := by decide +kernel
theorem dX12_closes_31 : decode cX12_closes 31 = .ok (.imul, 1) := by decide +kernel
theorem dX12_closes_32 : decode cX12_closes 32 = .ok (.iload_n 1, 1) := by decide +kernel
theorem dX12_closes_33 : decode cX12_closes 33 = .ok (.iadd, 1) := by decide +kernel
theorem dX12_closes_34 : decode cX12_closes 34 = .ok (.baload, 1) := by decide +kernel
theorem dX12_closes_35 : decode cX12_closes 35 = .ok (.ifCond .eq 21, 3) := by decide +kernel
theorem dX12_closes_38 : decode cX12_closes 38 = .ok (.aload_n 0, 1) := by decide +kernel
theorem dX12_closes_39 : decode cX12_closes 39 = .ok (.bipush 6, 2) := by decide +kernel
theorem dX12_closes_41 : decode cX12_closes 41 = .ok (.iload_n 1, 1) := by decide +kernel
theorem dX12_closes_42 : decode cX12_closes 42 = .ok (.imul, 1) := by decide +kernel
theorem dX12_closes_43 : decode cX12_closes 43 = .ok (.iload_n 2, 1) := by decide +kernel
theorem dX12_closes_44 : decode cX12_closes 44 = .ok (.bipush 6, 2) := by decide +kernel
theorem dX12_closes_46 : decode cX12_closes 46 = .ok (.irem, 1) := by decide +kernel
theorem dX12_closes_47 : decode cX12_closes 47 = .ok (.iadd, 1) := by decide +kernel
theorem dX12_closes_48 : decode cX12_closes 48 = .ok (.baload, 1) := by decide +kernel
theorem dX12_closes_49 : decode cX12_closes 49 = .ok (.ifCond .eq 7, 3) := by decide +kernel
theorem dX12_closes_52 : decode cX12_closes 52 = .ok (.iconst 1, 1) := by decide +kernel
theorem dX12_closes_53 : decode cX12_closes 53 = .ok (.goto 4, 3) := by decide +kernel
theorem dX12_closes_56 : decode cX12_closes 56 = .ok (.iconst 0, 1) := by decide +kernel
theorem dX12_closes_57 : decode cX12_closes 57 = .ok (.bastore, 1) := by decide +kernel
theorem dX12_closes_58 : decode cX12_closes 58 = .ok (.iinc 2 1, 3) := by decide +kernel
theorem dX12_closes_61 : decode cX12_closes 61 = .ok (.goto (-51), 3) := by decide +kernel
theorem dX12_closes_64 : decode cX12_closes 64 = .ok (.iinc 1 1, 3) := by decide +kernel
theorem dX12_closes_67 : decode cX12_closes 67 = .ok (.goto (-65), 3) := by decide +kernel
theorem dX12_closes_70 : decode cX12_closes 70 = .ok (.return_, 1) := by decide +kernel
theorem dX12_laysTurns_0 : decode cX12_laysTurns 0 = .ok (.iconst 0, 1) := by decide +kernel
theorem dX12_laysTurns_1 : decode cX12_laysTurns 1 = .ok (.istore_n 1, 1) := by decide +kernel
theorem dX12_laysTurns_2 : decode cX12_laysTurns 2 = .ok (.iload_n 1, 1) := by decide +kernel
theorem dX12_laysTurns_3 : decode cX12_laysTurns 3 = .ok (.bipush 36, 2) := by decide +kernel
theorem dX12_laysTurns_5 : decode cX12_laysTurns 5 = .ok (.if_icmp .ge 23, 3) := by decide +kernel
theorem dX12_laysTurns_8 : decode cX12_laysTurns 8 = .ok (.aload_n 0, 1) := by decide +kernel
theorem dX12_laysTurns_9 : decode cX12_laysTurns 9 = .ok (.getfield 36, 3) := by decide +kernel
theorem dX12_laysTurns_12 : decode cX12_laysTurns 12 = .ok (.iload_n 1, 1) := by decide +kernel
theorem dX12_laysTurns_13 : decode cX12_laysTurns 13 = .ok (.iconst 0, 1) := by decide +kernel
theorem dX12_laysTurns_14 : decode cX12_laysTurns 14 = .ok (.bastore, 1) := by decide +kernel
theorem dX12_laysTurns_15 : decode cX12_laysTurns 15 = .ok (.aload_n 0, 1) := by decide +kernel
theorem dX12_laysTurns_16 : decode cX12_laysTurns 16 = .ok (.getfield 39, 3) := by decide +kernel
theorem dX12_laysTurns_19 : decode cX12_laysTurns 19 = .ok (.iload_n 1, 1) := by decide +kernel
theorem dX12_laysTurns_20 : decode cX12_laysTurns 20 = .ok (.iconst 0, 1) := by decide +kernel
theorem dX12_laysTurns_21 : decode cX12_laysTurns 21 = .ok (.bastore, 1) := by decide +kernel
theorem dX12_laysTurns_22 : decode cX12_laysTurns 22 = .ok (.iinc 1 1, 3) := by decide +kernel
theorem dX12_laysTurns_25 : decode cX12_laysTurns 25 = .ok (.goto (-23), 3) := by decide +kernel
theorem dX12_laysTurns_28 : decode cX12_laysTurns 28 = .ok (.iconst 0, 1) := by decide +kernel
theorem dX12_laysTurns_29 : decode cX12_laysTurns 29 = .ok (.istore_n 1, 1) := by decide +kernel
theorem dX12_laysTurns_30 : decode cX12_laysTurns 30 = .ok (.iload_n 1, 1) := by decide +kernel
theorem dX12_laysTurns_31 : decode cX12_laysTurns 31 = .ok (.aload_n 0, 1) := by decide +kernel
theorem dX12_laysTurns_32 : decode cX12_laysTurns 32 = .ok (.invokevirtual 94, 3) := by decide +kernel
theorem dX12_laysTurns_35 : decode cX12_laysTurns 35 = .ok (.if_icmp .ge 109, 3) := by decide +kernel
theorem dX12_laysTurns_38 : decode cX12_laysTurns 38 = .ok (.iconst 0, 1) := by decide +kernel
theorem dX12_laysTurns_39 : decode cX12_laysTurns 39 = .ok (.istore_n 2, 1) := by decide +kernel
theorem dX12_laysTurns_40 : decode cX12_laysTurns 40 = .ok (.iload_n 2, 1) := by decide +kernel
theorem dX12_laysTurns_41 : decode cX12_laysTurns 41 = .ok (.aload_n 0, 1) := by decide +kernel
theorem dX12_laysTurns_42 : decode cX12_laysTurns 42 = .ok (.iload_n 1, 1) := by decide +kernel
theorem dX12_laysTurns_43 : decode cX12_laysTurns 43 = .ok (.invokevirtual 117, 3) := by decide +kernel
theorem dX12_laysTurns_46 : decode cX12_laysTurns 46 = .ok (.if_icmp .ge 92, 3) := by decide +kernel
theorem dX12_laysTurns_49 : decode cX12_laysTurns 49 = .ok (.aload_n 0, 1) := by decide +kernel
theorem dX12_laysTurns_50 : decode cX12_laysTurns 50 = .ok (.iload_n 1, 1) := by decide +kernel
theorem dX12_laysTurns_51 : decode cX12_laysTurns 51 = .ok (.iload_n 2, 1) := by decide +kernel
theorem dX12_laysTurns_52 : decode cX12_laysTurns 52 = .ok (.invokevirtual 109, 3) := by decide +kernel
theorem dX12_laysTurns_55 : decode cX12_laysTurns 55 = .ok (.bipush 10, 2) := by decide +kernel
theorem dX12_laysTurns_57 : decode cX12_laysTurns 57 = .ok (.if_icmp .lt 75, 3) := by decide +kernel
theorem dX12_laysTurns_60 : decode cX12_laysTurns 60 = .ok (.aload_n 0, 1) := by decide +kernel
theorem dX12_laysTurns_61 : decode cX12_laysTurns 61 = .ok (.iload_n 1, 1) := by decide +kernel
theorem dX12_laysTurns_62 : decode cX12_laysTurns 62 = .ok (.iconst 0, 1) := by decide +kernel
theorem dX12_laysTurns_63 : decode cX12_laysTurns 63 = .ok (.iload_n 2, 1) := by decide +kernel
theorem dX12_laysTurns_64 : decode cX12_laysTurns 64 = .ok (.invokevirtual 120, 3) := by decide +kernel
theorem dX12_laysTurns_67 : decode cX12_laysTurns 67 = .ok (.ifCond .eq 65, 3) := by decide +kernel
theorem dX12_laysTurns_70 : decode cX12_laysTurns 70 = .ok (.bipush 6, 2) := by decide +kernel
theorem dX12_laysTurns_72 : decode cX12_laysTurns 72 = .ok (.aload_n 0, 1) := by decide +kernel
theorem dX12_laysTurns_73 : decode cX12_laysTurns 73 = .ok (.iload_n 1, 1) := by decide +kernel
theorem dX12_laysTurns_74 : decode cX12_laysTurns 74 = .ok (.invokevirtual 102, 3) := by decide +kernel
theorem dX12_laysTurns_77 : decode cX12_laysTurns 77 = .ok (.imul, 1) := by decide +kernel
theorem dX12_laysTurns_78 : decode cX12_laysTurns 78 = .ok (.aload_n 0, 1) := by decide +kernel
theorem dX12_laysTurns_79 : decode cX12_laysTurns 79 = .ok (.iload_n 1, 1) := by decide +kernel
theorem dX12_laysTurns_80 : decode cX12_laysTurns 80 = .ok (.iload_n 2, 1) := by decide +kernel
theorem dX12_laysTurns_81 : decode cX12_laysTurns 81 = .ok (.invokevirtual 109, 3) := by decide +kernel
theorem dX12_laysTurns_84 : decode cX12_laysTurns 84 = .ok (.iadd, 1) := by decide +kernel
theorem dX12_laysTurns_85 : decode cX12_laysTurns 85 = .ok (.bipush 10, 2) := by decide +kernel
theorem dX12_laysTurns_87 : decode cX12_laysTurns 87 = .ok (.isub, 1) := by decide +kernel
theorem dX12_laysTurns_88 : decode cX12_laysTurns 88 = .ok (.istore_n 3, 1) := by decide +kernel
theorem dX12_laysTurns_89 : decode cX12_laysTurns 89 = .ok (.aload_n 0, 1) := by decide +kernel
theorem dX12_laysTurns_90 : decode cX12_laysTurns 90 = .ok (.getfield 36, 3) := by decide +kernel
theorem dX12_laysTurns_93 : decode cX12_laysTurns 93 = .ok (.iload_n 3, 1) := by decide +kernel
theorem dX12_laysTurns_94 : decode cX12_laysTurns 94 = .ok (.iconst 1, 1) := by decide +kernel
theorem dX12_laysTurns_95 : decode cX12_laysTurns 95 = .ok (.bastore, 1) := by decide +kernel
theorem dX12_laysTurns_96 : decode cX12_laysTurns 96 = .ok (.aload_n 0, 1) := by decide +kernel
theorem dX12_laysTurns_97 : decode cX12_laysTurns 97 = .ok (.getfield 39, 3) := by decide +kernel
theorem dX12_laysTurns_100 : decode cX12_laysTurns 100 = .ok (.iload_n 3, 1) := by decide +kernel
theorem dX12_laysTurns_101 : decode cX12_laysTurns 101 = .ok (.aload_n 0, 1) := by decide +kernel
theorem dX12_laysTurns_102 : decode cX12_laysTurns 102 = .ok (.getfield 39, 3) := by decide +kernel
theorem dX12_laysTurns_105 : decode cX12_laysTurns 105 = .ok (.iload_n 3, 1) := by decide +kernel
theorem dX12_laysTurns_106 : decode cX12_laysTurns 106 = .ok (.baload, 1) := by decide +kernel
theorem dX12_laysTurns_107 : decode cX12_laysTurns 107 = .ok (.ifCond .ne 19, 3) := by decide +kernel
theorem dX12_laysTurns_110 : decode cX12_laysTurns 110 = .ok (.aload_n 0, 1) := by decide +kernel
theorem dX12_laysTurns_111 : decode cX12_laysTurns 111 = .ok (.iload_n 1, 1) := by decide +kernel
theorem dX12_laysTurns_112 : decode cX12_laysTurns 112 = .ok (.iload_n 2, 1) := by decide +kernel
theorem dX12_laysTurns_113 : decode cX12_laysTurns 113 = .ok (.iconst 1, 1) := by decide +kernel
theorem dX12_laysTurns_114 : decode cX12_laysTurns 114 = .ok (.iadd, 1) := by decide +kernel
theorem dX12_laysTurns_115 : decode cX12_laysTurns 115 = .ok (.aload_n 0, 1) := by decide +kernel
theorem dX12_laysTurns_116 : decode cX12_laysTurns 116 = .ok (.iload_n 1, 1) := by decide +kernel
theorem dX12_laysTurns_117 : decode cX12_laysTurns 117 = .ok (.invokevirtual 117, 3) := by decide +kernel
theorem dX12_laysTurns_120 : decode cX12_laysTurns 120 = .ok (.invokevirtual 120, 3) := by decide +kernel
theorem dX12_laysTurns_123 : decode cX12_laysTurns 123 = .ok (.ifCond .eq 7, 3) := by decide +kernel
theorem dX12_laysTurns_126 : decode cX12_laysTurns 126 = .ok (.iconst 1, 1) := by decide +kernel
theorem dX12_laysTurns_127 : decode cX12_laysTurns 127 = .ok (.goto 4, 3) := by decide +kernel
theorem dX12_laysTurns_130 : decode cX12_laysTurns 130 = .ok (.iconst 0, 1) := by decide +kernel
theorem dX12_laysTurns_131 : decode cX12_laysTurns 131 = .ok (.bastore, 1) := by decide +kernel
theorem dX12_laysTurns_132 : decode cX12_laysTurns 132 = .ok (.iinc 2 1, 3) := by decide +kernel
theorem dX12_laysTurns_135 : decode cX12_laysTurns 135 = .ok (.goto (-95), 3) := by decide +kernel
theorem dX12_laysTurns_138 : decode cX12_laysTurns 138 = .ok (.iinc 1 1, 3) := by decide +kernel
theorem dX12_laysTurns_141 : decode cX12_laysTurns 141 = .ok (.goto (-111), 3) := by decide +kernel
theorem dX12_laysTurns_144 : decode cX12_laysTurns 144 = .ok (.aload_n 0, 1) := by decide +kernel
theorem dX12_laysTurns_145 : decode cX12_laysTurns 145 = .ok (.getfield 36, 3) := by decide +kernel
theorem dX12_laysTurns_148 : decode cX12_laysTurns 148 = .ok (.invokestatic 127, 3) := by decide +kernel
theorem dX12_laysTurns_151 : decode cX12_laysTurns 151 = .ok (.aload_n 0, 1) := by decide +kernel
theorem dX12_laysTurns_152 : decode cX12_laysTurns 152 = .ok (.getfield 39, 3) := by decide +kernel
theorem dX12_laysTurns_155 : decode cX12_laysTurns 155 = .ok (.invokestatic 127, 3) := by decide +kernel
theorem dX12_laysTurns_158 : decode cX12_laysTurns 158 = .ok (.return_, 1) := by decide +kernel
theorem dX12_lettersOf_0 : decode cX12_lettersOf 0 = .ok (.iload_n 0, 1) := by decide +kernel
theorem dX12_lettersOf_1 : decode cX12_lettersOf 1 = .ok (.ifCond .ne 7, 3) := by decide +kernel
theorem dX12_lettersOf_4 : decode cX12_lettersOf 4 = .ok (.iconst 0, 1) := by decide +kernel
theorem dX12_lettersOf_5 : decode cX12_lettersOf 5 = .ok (.goto 24, 3) := by decide +kernel
theorem dX12_lettersOf_8 : decode cX12_lettersOf 8 = .ok (.iload_n 0, 1) := by decide +kernel
theorem dX12_lettersOf_9 : decode cX12_lettersOf 9 = .ok (.bipush 6, 2) := by decide +kernel
theorem dX12_lettersOf_11 : decode cX12_lettersOf 11 = .ok (.if_icmp .ge 7, 3) := by decide +kernel
theorem dX12_lettersOf_14 : decode cX12_lettersOf 14 = .ok (.iconst 1, 1) := by decide +kernel
theorem dX12_lettersOf_15 : decode cX12_lettersOf 15 = .ok (.goto 14, 3) := by decide +kernel
theorem dX12_lettersOf_18 : decode cX12_lettersOf 18 = .ok (.iload_n 0, 1) := by decide +kernel
theorem dX12_lettersOf_19 : decode cX12_lettersOf 19 = .ok (.bipush 36, 2) := by decide +kernel
theorem dX12_lettersOf_21 : decode cX12_lettersOf 21 = .ok (.if_icmp .ge 7, 3) := by decide +kernel
theorem dX12_lettersOf_24 : decode cX12_lettersOf 24 = .ok (.iconst 2, 1) := by decide +kernel
theorem dX12_lettersOf_25 : decode cX12_lettersOf 25 = .ok (.goto 4, 3) := by decide +kernel
theorem dX12_lettersOf_28 : decode cX12_lettersOf 28 = .ok (.iconst 3, 1) := by decide +kernel
theorem dX12_lettersOf_29 : decode cX12_lettersOf 29 = .ok (.ireturn, 1) := by decide +kernel
theorem dX12_power_0 : decode cX12_power 0 = .ok (.iload_n 0, 1) := by decide +kernel
theorem dX12_power_1 : decode cX12_power 1 = .ok (.ifCond .ne 7, 3) := by decide +kernel
theorem dX12_power_4 : decode cX12_power 4 = .ok (.iconst 1, 1) := by decide +kernel
theorem dX12_power_5 : decode cX12_power 5 = .ok (.goto 26, 3) := by decide +kernel
theorem dX12_power_8 : decode cX12_power 8 = .ok (.iload_n 0, 1) := by decide +kernel
theorem dX12_power_9 : decode cX12_power 9 = .ok (.iconst 1, 1) := by decide +kernel
theorem dX12_power_10 : decode cX12_power 10 = .ok (.if_icmp .ne 8, 3) := by decide +kernel
theorem dX12_power_13 : decode cX12_power 13 = .ok (.bipush 6, 2) := by decide +kernel
theorem dX12_power_15 : decode cX12_power 15 = .ok (.goto 16, 3) := by decide +kernel
theorem dX12_power_18 : decode cX12_power 18 = .ok (.iload_n 0, 1) := by decide +kernel
theorem dX12_power_19 : decode cX12_power 19 = .ok (.iconst 2, 1) := by decide +kernel
theorem dX12_power_20 : decode cX12_power 20 = .ok (.if_icmp .ne 8, 3) := by decide +kernel
theorem dX12_power_23 : decode cX12_power 23 = .ok (.bipush 36, 2) := by decide +kernel
theorem dX12_power_25 : decode cX12_power 25 = .ok (.goto 6, 3) := by decide +kernel
theorem dX12_power_28 : decode cX12_power 28 = .ok (.sipush 216, 3) := by decide +kernel
theorem dX12_power_31 : decode cX12_power 31 = .ok (.ireturn, 1) := by decide +kernel
theorem dX12_cut_0 : decode cX12_cut 0 = .ok (.iload_n 0, 1) := by decide +kernel
theorem dX12_cut_1 : decode cX12_cut 1 = .ok (.invokestatic 131, 3) := by decide +kernel
theorem dX12_cut_4 : decode cX12_cut 4 = .ok (.istore_n 2, 1) := by decide +kernel
theorem dX12_cut_5 : decode cX12_cut 5 = .ok (.iload_n 2, 1) := by decide +kernel
theorem dX12_cut_6 : decode cX12_cut 6 = .ok (.iload_n 1, 1) := by decide +kernel
theorem dX12_cut_7 : decode cX12_cut 7 = .ok (.if_icmp .gt 7, 3) := by decide +kernel
theorem dX12_cut_10 : decode cX12_cut 10 = .ok (.iload_n 0, 1) := by decide +kernel
theorem dX12_cut_11 : decode cX12_cut 11 = .ok (.goto 11, 3) := by decide +kernel
theorem dX12_cut_14 : decode cX12_cut 14 = .ok (.iload_n 0, 1) := by decide +kernel
theorem dX12_cut_15 : decode cX12_cut 15 = .ok (.iload_n 2, 1) := by decide +kernel
theorem dX12_cut_16 : decode cX12_cut 16 = .ok (.iload_n 1, 1) := by decide +kernel
theorem dX12_cut_17 : decode cX12_cut 17 = .ok (.isub, 1) := by decide +kernel
theorem dX12_cut_18 : decode cX12_cut 18 = .ok (.invokestatic 134, 3) := by decide +kernel
theorem dX12_cut_21 : decode cX12_cut 21 = .ok (.idiv, 1) := by decide +kernel
theorem dX12_cut_22 : decode cX12_cut 22 = .ok (.ireturn, 1) := by decide +kernel
theorem dX12_joined_0 : decode cX12_joined 0 = .ok (.iconst 3, 1) := by decide +kernel
theorem dX12_joined_1 : decode cX12_joined 1 = .ok (.iload_n 0, 1) := by decide +kernel
theorem dX12_joined_2 : decode cX12_joined 2 = .ok (.invokestatic 131, 3) := by decide +kernel
theorem dX12_joined_5 : decode cX12_joined 5 = .ok (.isub, 1) := by decide +kernel
theorem dX12_joined_6 : decode cX12_joined 6 = .ok (.istore_n 2, 1) := by decide +kernel
theorem dX12_joined_7 : decode cX12_joined 7 = .ok (.iload_n 1, 1) := by decide +kernel
theorem dX12_joined_8 : decode cX12_joined 8 = .ok (.iload_n 2, 1) := by decide +kernel
theorem dX12_joined_9 : decode cX12_joined 9 = .ok (.invokestatic 137, 3) := by decide +kernel
theorem dX12_joined_12 : decode cX12_joined 12 = .ok (.istore_n 3, 1) := by decide +kernel
theorem dX12_joined_13 : decode cX12_joined 13 = .ok (.iload_n 0, 1) := by decide +kernel
theorem dX12_joined_14 : decode cX12_joined 14 = .ok (.iload_n 3, 1) := by decide +kernel
theorem dX12_joined_15 : decode cX12_joined 15 = .ok (.invokestatic 131, 3) := by decide +kernel
theorem dX12_joined_18 : decode cX12_joined 18 = .ok (.invokestatic 134, 3) := by decide +kernel
theorem dX12_joined_21 : decode cX12_joined 21 = .ok (.imul, 1) := by decide +kernel
theorem dX12_joined_22 : decode cX12_joined 22 = .ok (.iload_n 3, 1) := by decide +kernel
theorem dX12_joined_23 : decode cX12_joined 23 = .ok (.iadd, 1) := by decide +kernel
theorem dX12_joined_24 : decode cX12_joined 24 = .ok (.ireturn, 1) := by decide +kernel
theorem dX12_isWord_0 : decode cX12_isWord 0 = .ok (.iload_n 0, 1) := by decide +kernel
theorem dX12_isWord_1 : decode cX12_isWord 1 = .ok (.iconst 0, 1) := by decide +kernel
theorem dX12_isWord_2 : decode cX12_isWord 2 = .ok (.sipush 215, 3) := by decide +kernel
theorem dX12_isWord_5 : decode cX12_isWord 5 = .ok (.invokestatic 98, 3) := by decide +kernel
theorem dX12_isWord_8 : decode cX12_isWord 8 = .ok (.ifCond .ne 5, 3) := by decide +kernel
theorem dX12_isWord_11 : decode cX12_isWord 11 = .ok (.iconst 0, 1) := by decide +kernel
theorem dX12_isWord_12 : decode cX12_isWord 12 = .ok (.ireturn, 1) := by decide +kernel
theorem dX12_isWord_13 : decode cX12_isWord 13 = .ok (.iload_n 0, 1) := by decide +kernel
theorem dX12_isWord_14 : decode cX12_isWord 14 = .ok (.invokestatic 131, 3) := by decide +kernel
theorem dX12_isWord_17 : decode cX12_isWord 17 = .ok (.istore_n 2, 1) := by decide +kernel
theorem dX12_isWord_18 : decode cX12_isWord 18 = .ok (.iload_n 2, 1) := by decide +kernel
theorem dX12_isWord_19 : decode cX12_isWord 19 = .ok (.iload_n 1, 1) := by decide +kernel
theorem dX12_isWord_20 : decode cX12_isWord 20 = .ok (.if_icmp .gt 7, 3) := by decide +kernel
theorem dX12_isWord_23 : decode cX12_isWord 23 = .ok (.iconst 1, 1) := by decide +kernel
theorem dX12_isWord_24 : decode cX12_isWord 24 = .ok (.goto 4, 3) := by decide +kernel
theorem dX12_isWord_27 : decode cX12_isWord 27 = .ok (.iconst 0, 1) := by decide +kernel
theorem dX12_isWord_28 : decode cX12_isWord 28 = .ok (.istore_n 3, 1) := by decide +kernel
theorem dX12_isWord_29 : decode cX12_isWord 29 = .ok (.iload_n 0, 1) := by decide +kernel
theorem dX12_isWord_30 : decode cX12_isWord 30 = .ok (.istore 4, 2) := by decide +kernel
theorem dX12_isWord_32 : decode cX12_isWord 32 = .ok (.iload 4, 2) := by decide +kernel
theorem dX12_isWord_34 : decode cX12_isWord 34 = .ok (.ifCond .le 31, 3) := by decide +kernel
theorem dX12_isWord_37 : decode cX12_isWord 37 = .ok (.iload_n 3, 1) := by decide +kernel
theorem dX12_isWord_38 : decode cX12_isWord 38 = .ok (.ifCond .eq 15, 3) := by decide +kernel
theorem dX12_isWord_41 : decode cX12_isWord 41 = .ok (.iload 4, 2) := by decide +kernel
theorem dX12_isWord_43 : decode cX12_isWord 43 = .ok (.bipush 6, 2) := by decide +kernel
theorem dX12_isWord_45 : decode cX12_isWord 45 = .ok (.irem, 1) := by decide +kernel
theorem dX12_isWord_46 : decode cX12_isWord 46 = .ok (.ifCond .le 7, 3) := by decide +kernel
theorem dX12_isWord_49 : decode cX12_isWord 49 = .ok (.iconst 1, 1) := by decide +kernel
theorem dX12_isWord_50 : decode cX12_isWord 50 = .ok (.goto 4, 3) := by decide +kernel
theorem dX12_isWord_53 : decode cX12_isWord 53 = .ok (.iconst 0, 1) := by decide +kernel
theorem dX12_isWord_54 : decode cX12_isWord 54 = .ok (.istore_n 3, 1) := by decide +kernel
theorem dX12_isWord_55 : decode cX12_isWord 55 = .ok (.iload 4, 2) := by decide +kernel
theorem dX12_isWord_57 : decode cX12_isWord 57 = .ok (.bipush 6, 2) := by decide +kernel
theorem dX12_isWord_59 : decode cX12_isWord 59 = .ok (.idiv, 1) := by decide +kernel
theorem dX12_isWord_60 : decode cX12_isWord 60 = .ok (.istore 4, 2) := by decide +kernel
theorem dX12_isWord_62 : decode cX12_isWord 62 = .ok (.goto (-30), 3) := by decide +kernel
theorem dX12_isWord_65 : decode cX12_isWord 65 = .ok (.iload_n 3, 1) := by decide +kernel
theorem dX12_isWord_66 : decode cX12_isWord 66 = .ok (.ireturn, 1) := by decide +kernel
theorem dX12_begin_0 : decode cX12_begin 0 = .ok (.iconst 0, 1) := by decide +kernel
theorem dX12_begin_1 : decode cX12_begin 1 = .ok (.istore_n 1, 1) := by decide +kernel
theorem dX12_begin_2 : decode cX12_begin 2 = .ok (.iload_n 1, 1) := by decide +kernel
theorem dX12_begin_3 : decode cX12_begin 3 = .ok (.sipush 216, 3) := by decide +kernel
theorem dX12_begin_6 : decode cX12_begin 6 = .ok (.if_icmp .ge 24, 3) := by decide +kernel
theorem dX12_begin_9 : decode cX12_begin 9 = .ok (.aload_n 0, 1) := by decide +kernel
theorem dX12_begin_10 : decode cX12_begin 10 = .ok (.getfield 51, 3) := by decide +kernel
theorem dX12_begin_13 : decode cX12_begin 13 = .ok (.iload_n 1, 1) := by decide +kernel
theorem dX12_begin_14 : decode cX12_begin 14 = .ok (.iload_n 1, 1) := by decide +kernel
theorem dX12_begin_15 : decode cX12_begin 15 = .ok (.ifCond .ne 7, 3) := by decide +kernel
theorem dX12_begin_18 : decode cX12_begin 18 = .ok (.iconst 1, 1) := by decide +kernel
theorem dX12_begin_19 : decode cX12_begin 19 = .ok (.goto 4, 3) := by decide +kernel
theorem dX12_begin_22 : decode cX12_begin 22 = .ok (.iconst 0, 1) := by decide +kernel
theorem dX12_begin_23 : decode cX12_begin 23 = .ok (.bastore, 1) := by decide +kernel
theorem dX12_begin_24 : decode cX12_begin 24 = .ok (.iinc 1 1, 3) := by decide +kernel
theorem dX12_begin_27 : decode cX12_begin 27 = .ok (.goto (-25), 3) := by decide +kernel
theorem dX12_begin_30 : decode cX12_begin 30 = .ok (.return_, 1) := by decide +kernel
theorem dX12_joins_0 : decode cX12_joins 0 = .ok (.iconst 0, 1) := by decide +kernel
theorem dX12_joins_1 : decode cX12_joins 1 = .ok (.istore_n 3, 1) := by decide +kernel
theorem dX12_joins_2 : decode cX12_joins 2 = .ok (.iconst 0, 1) := by decide +kernel
theorem dX12_joins_3 : decode cX12_joins 3 = .ok (.istore 4, 2) := by decide +kernel
theorem dX12_joins_5 : decode cX12_joins 5 = .ok (.iload 4, 2) := by decide +kernel
theorem dX12_joins_7 : decode cX12_joins 7 = .ok (.sipush 216, 3) := by decide +kernel
theorem dX12_joins_10 : decode cX12_joins 10 = .ok (.if_icmp .ge 36, 3) := by decide +kernel
theorem dX12_joins_13 : decode cX12_joins 13 = .ok (.aload_n 0, 1) := by decide +kernel
theorem dX12_joins_14 : decode cX12_joins 14 = .ok (.getfield 54, 3) := by decide +kernel
theorem dX12_joins_17 : decode cX12_joins 17 = .ok (.iload 4, 2) := by decide +kernel
theorem dX12_joins_19 : decode cX12_joins 19 = .ok (.iconst 0, 1) := by decide +kernel
theorem dX12_joins_20 : decode cX12_joins 20 = .ok (.bastore, 1) := by decide +kernel
theorem dX12_joins_21 : decode cX12_joins 21 = .ok (.iload_n 3, 1) := by decide +kernel
theorem dX12_joins_22 : decode cX12_joins 22 = .ok (.ifCond .ne 12, 3) := by decide +kernel
theorem dX12_joins_25 : decode cX12_joins 25 = .ok (.aload_n 1, 1) := by decide +kernel
theorem dX12_joins_26 : decode cX12_joins 26 = .ok (.iload_n 2, 1) := by decide +kernel
theorem dX12_joins_27 : decode cX12_joins 27 = .ok (.iload 4, 2) := by decide +kernel
theorem dX12_joins_29 : decode cX12_joins 29 = .ok (.iadd, 1) := by decide +kernel
theorem dX12_joins_30 : decode cX12_joins 30 = .ok (.baload, 1) := by decide +kernel
theorem dX12_joins_31 : decode cX12_joins 31 = .ok (.ifCond .eq 7, 3) := by decide +kernel
theorem dX12_joins_34 : decode cX12_joins 34 = .ok (.iconst 1, 1) := by decide +kernel
theorem dX12_joins_35 : decode cX12_joins 35 = .ok (.goto 4, 3) := by decide +kernel
theorem dX12_joins_38 : decode cX12_joins 38 = .ok (.iconst 0, 1) := by decide +kernel
theorem dX12_joins_39 : decode cX12_joins 39 = .ok (.istore_n 3, 1) := by decide +kernel
theorem dX12_joins_40 : decode cX12_joins 40 = .ok (.iinc 4 1, 3) := by decide +kernel
theorem dX12_joins_43 : decode cX12_joins 43 = .ok (.goto (-38), 3) := by decide +kernel
theorem dX12_joins_46 : decode cX12_joins 46 = .ok (.iconst 0, 1) := by decide +kernel
theorem dX12_joins_47 : decode cX12_joins 47 = .ok (.istore 4, 2) := by decide +kernel
theorem dX12_joins_49 : decode cX12_joins 49 = .ok (.iload 4, 2) := by decide +kernel
theorem dX12_joins_51 : decode cX12_joins 51 = .ok (.sipush 216, 3) := by decide +kernel
theorem dX12_joins_54 : decode cX12_joins 54 = .ok (.if_icmp .ge 106, 3) := by decide +kernel
theorem dX12_joins_57 : decode cX12_joins 57 = .ok (.aload_n 0, 1) := by decide +kernel
theorem dX12_joins_58 : decode cX12_joins 58 = .ok (.getfield 51, 3) := by decide +kernel
theorem dX12_joins_61 : decode cX12_joins 61 = .ok (.iload 4, 2) := by decide +kernel
theorem dX12_joins_63 : decode cX12_joins 63 = .ok (.baload, 1) := by decide +kernel
theorem dX12_joins_64 : decode cX12_joins 64 = .ok (.ifCond .eq 41, 3) := by decide +kernel
theorem dX12_joins_67 : decode cX12_joins 67 = .ok (.iload 4, 2) := by decide +kernel
theorem dX12_joins_69 : decode cX12_joins 69 = .ok (.invokestatic 131, 3) := by decide +kernel
theorem dX12_joins_72 : decode cX12_joins 72 = .ok (.iconst 3, 1) := by decide +kernel
theorem dX12_joins_73 : decode cX12_joins 73 = .ok (.if_icmp .ne 32, 3) := by decide +kernel
theorem dX12_joins_76 : decode cX12_joins 76 = .ok (.aload_n 0, 1) := by decide +kernel
theorem dX12_joins_77 : decode cX12_joins 77 = .ok (.getfield 54, 3) := by decide +kernel
theorem dX12_joins_80 : decode cX12_joins 80 = .ok (.iload 4, 2) := by decide +kernel
theorem dX12_joins_82 : decode cX12_joins 82 = .ok (.aload_n 0, 1) := by decide +kernel
theorem dX12_joins_83 : decode cX12_joins 83 = .ok (.getfield 54, 3) := by decide +kernel
theorem dX12_joins_86 : decode cX12_joins 86 = .ok (.iload 4, 2) := by decide +kernel
theorem dX12_joins_88 : decode cX12_joins 88 = .ok (.baload, 1) := by decide +kernel
theorem dX12_joins_89 : decode cX12_joins 89 = .ok (.ifCond .ne 7, 3) := by decide +kernel
theorem dX12_joins_92 : decode cX12_joins 92 = .ok (.iload_n 3, 1) := by decide +kernel
theorem dX12_joins_93 : decode cX12_joins 93 = .ok (.ifCond .eq 7, 3) := by decide +kernel
theorem dX12_joins_96 : decode cX12_joins 96 = .ok (.iconst 1, 1) := by decide +kernel
theorem dX12_joins_97 : decode cX12_joins 97 = .ok (.goto 4, 3) := by decide +kernel
theorem dX12_joins_100 : decode cX12_joins 100 = .ok (.iconst 0, 1) := by decide +kernel
theorem dX12_joins_101 : decode cX12_joins 101 = .ok (.bastore, 1) := by decide +kernel
theorem dX12_joins_102 : decode cX12_joins 102 = .ok (.goto 52, 3) := by decide +kernel
theorem dX12_joins_105 : decode cX12_joins 105 = .ok (.aload_n 0, 1) := by decide +kernel
theorem dX12_joins_106 : decode cX12_joins 106 = .ok (.getfield 51, 3) := by decide +kernel
theorem dX12_joins_109 : decode cX12_joins 109 = .ok (.iload 4, 2) := by decide +kernel
theorem dX12_joins_111 : decode cX12_joins 111 = .ok (.baload, 1) := by decide +kernel
theorem dX12_joins_112 : decode cX12_joins 112 = .ok (.ifCond .eq 42, 3) := by decide +kernel
theorem dX12_joins_115 : decode cX12_joins 115 = .ok (.iconst 0, 1) := by decide +kernel
theorem dX12_joins_116 : decode cX12_joins 116 = .ok (.istore 5, 2) := by decide +kernel
theorem dX12_joins_118 : decode cX12_joins 118 = .ok (.iload 5, 2) := by decide +kernel
theorem dX12_joins_120 : decode cX12_joins 120 = .ok (.sipush 216, 3) := by decide +kernel
theorem dX12_joins_123 : decode cX12_joins 123 = .ok (.if_icmp .ge 31, 3) := by decide +kernel
theorem dX12_joins_126 : decode cX12_joins 126 = .ok (.aload_n 1, 1) := by decide +kernel
theorem dX12_joins_127 : decode cX12_joins 127 = .ok (.iload_n 2, 1) := by decide +kernel
theorem dX12_joins_128 : decode cX12_joins 128 = .ok (.iload 5, 2) := by decide +kernel
theorem dX12_joins_130 : decode cX12_joins 130 = .ok (.iadd, 1) := by decide +kernel
theorem dX12_joins_131 : decode cX12_joins 131 = .ok (.baload, 1) := by decide +kernel
theorem dX12_joins_132 : decode cX12_joins 132 = .ok (.ifCond .eq 16, 3) := by decide +kernel
theorem dX12_joins_135 : decode cX12_joins 135 = .ok (.aload_n 0, 1) := by decide +kernel
theorem dX12_joins_136 : decode cX12_joins 136 = .ok (.getfield 54, 3) := by decide +kernel
theorem dX12_joins_139 : decode cX12_joins 139 = .ok (.iload 4, 2) := by decide +kernel
theorem dX12_joins_141 : decode cX12_joins 141 = .ok (.iload 5, 2) := by decide +kernel
theorem dX12_joins_143 : decode cX12_joins 143 = .ok (.invokestatic 140, 3) := by decide +kernel
theorem dX12_joins_146 : decode cX12_joins 146 = .ok (.iconst 1, 1) := by decide +kernel
theorem dX12_joins_147 : decode cX12_joins 147 = .ok (.bastore, 1) := by decide +kernel
theorem dX12_joins_148 : decode cX12_joins 148 = .ok (.iinc 5 1, 3) := by decide +kernel
theorem dX12_joins_151 : decode cX12_joins 151 = .ok (.goto (-33), 3) := by decide +kernel
theorem dX12_joins_154 : decode cX12_joins 154 = .ok (.iinc 4 1, 3) := by decide +kernel
theorem dX12_joins_157 : decode cX12_joins 157 = .ok (.goto (-108), 3) := by decide +kernel
theorem dX12_joins_160 : decode cX12_joins 160 = .ok (.iconst 0, 1) := by decide +kernel
theorem dX12_joins_161 : decode cX12_joins 161 = .ok (.istore 4, 2) := by decide +kernel
theorem dX12_joins_163 : decode cX12_joins 163 = .ok (.iload 4, 2) := by decide +kernel
theorem dX12_joins_165 : decode cX12_joins 165 = .ok (.sipush 216, 3) := by decide +kernel
theorem dX12_joins_168 : decode cX12_joins 168 = .ok (.if_icmp .ge 23, 3) := by decide +kernel
theorem dX12_joins_171 : decode cX12_joins 171 = .ok (.aload_n 0, 1) := by decide +kernel
theorem dX12_joins_172 : decode cX12_joins 172 = .ok (.getfield 51, 3) := by decide +kernel
theorem dX12_joins_175 : decode cX12_joins 175 = .ok (.iload 4, 2) := by decide +kernel
theorem dX12_joins_177 : decode cX12_joins 177 = .ok (.aload_n 0, 1) := by decide +kernel
theorem dX12_joins_178 : decode cX12_joins 178 = .ok (.getfield 54, 3) := by decide +kernel
theorem dX12_joins_181 : decode cX12_joins 181 = .ok (.iload 4, 2) := by decide +kernel
theorem dX12_joins_183 : decode cX12_joins 183 = .ok (.baload, 1) := by decide +kernel
theorem dX12_joins_184 : decode cX12_joins 184 = .ok (.bastore, 1) := by decide +kernel
theorem dX12_joins_185 : decode cX12_joins 185 = .ok (.iinc 4 1, 3) := by decide +kernel
theorem dX12_joins_188 : decode cX12_joins 188 = .ok (.goto (-25), 3) := by decide +kernel
theorem dX12_joins_191 : decode cX12_joins 191 = .ok (.return_, 1) := by decide +kernel
theorem dX12_joinsSymbols_0 : decode cX12_joinsSymbols 0 = .ok (.iload_n 2, 1) := by decide +kernel
theorem dX12_joinsSymbols_1 : decode cX12_joinsSymbols 1 = .ok (.istore_n 3, 1) := by decide +kernel
theorem dX12_joinsSymbols_2 : decode cX12_joinsSymbols 2 = .ok (.iload_n 3, 1) := by decide +kernel
theorem dX12_joinsSymbols_3 : decode cX12_joinsSymbols 3 = .ok (.aload_n 0, 1) := by decide +kernel
theorem dX12_joinsSymbols_4 : decode cX12_joinsSymbols 4 = .ok (.iload_n 1, 1) := by decide +kernel
theorem dX12_joinsSymbols_5 : decode cX12_joinsSymbols 5 = .ok (.invokevirtual 117, 3) := by decide +kernel
theorem dX12_joinsSymbols_8 : decode cX12_joinsSymbols 8 = .ok (.if_icmp .ge 81, 3) := by decide +kernel
theorem dX12_joinsSymbols_11 : decode cX12_joinsSymbols 11 = .ok (.aload_n 0, 1) := by decide +kernel
theorem dX12_joinsSymbols_12 : decode cX12_joinsSymbols 12 = .ok (.iload_n 1, 1) := by decide +kernel
theorem dX12_joinsSymbols_13 : decode cX12_joinsSymbols 13 = .ok (.iload_n 3, 1) := by decide +kernel
theorem dX12_joinsSymbols_14 : decode cX12_joinsSymbols 14 = .ok (.invokevirtual 109, 3) := by decide +kernel
theorem dX12_joinsSymbols_17 : decode cX12_joinsSymbols 17 = .ok (.bipush 10, 2) := by decide +kernel
theorem dX12_joinsSymbols_19 : decode cX12_joinsSymbols 19 = .ok (.if_icmp .lt 27, 3) := by decide +kernel
theorem dX12_joinsSymbols_22 : decode cX12_joinsSymbols 22 = .ok (.aload_n 0, 1) := by decide +kernel
theorem dX12_joinsSymbols_23 : decode cX12_joinsSymbols 23 = .ok (.aload_n 0, 1) := by decide +kernel
theorem dX12_joinsSymbols_24 : decode cX12_joinsSymbols 24 = .ok (.getfield 42, 3) := by decide +kernel
theorem dX12_joinsSymbols_27 : decode cX12_joinsSymbols 27 = .ok (.sipush 216, 3) := by decide +kernel
theorem dX12_joinsSymbols_30 : decode cX12_joinsSymbols 30 = .ok (.aload_n 0, 1) := by decide +kernel
theorem dX12_joinsSymbols_31 : decode cX12_joinsSymbols 31 = .ok (.iload_n 1, 1) := by decide +kernel
theorem dX12_joinsSymbols_32 : decode cX12_joinsSymbols 32 = .ok (.iload_n 3, 1) := by decide +kernel
theorem dX12_joinsSymbols_33 : decode cX12_joinsSymbols 33 = .ok (.invokevirtual 109, 3) := by decide +kernel
theorem dX12_joinsSymbols_36 : decode cX12_joinsSymbols 36 = .ok (.bipush 10, 2) := by decide +kernel
theorem dX12_joinsSymbols_38 : decode cX12_joinsSymbols 38 = .ok (.isub, 1) := by decide +kernel
theorem dX12_joinsSymbols_39 : decode cX12_joinsSymbols 39 = .ok (.imul, 1) := by decide +kernel
theorem dX12_joinsSymbols_40 : decode cX12_joinsSymbols 40 = .ok (.invokevirtual 143, 3) := by decide +kernel
theorem dX12_joinsSymbols_43 : decode cX12_joinsSymbols 43 = .ok (.goto 40, 3) := by decide +kernel
theorem dX12_joinsSymbols_46 : decode cX12_joinsSymbols 46 = .ok (.aload_n 0, 1) := by decide +kernel
theorem dX12_joinsSymbols_47 : decode cX12_joinsSymbols 47 = .ok (.getfield 57, 3) := by decide +kernel
theorem dX12_joinsSymbols_50 : decode cX12_joinsSymbols 50 = .ok (.aload_n 0, 1) := by decide +kernel
theorem dX12_joinsSymbols_51 : decode cX12_joinsSymbols 51 = .ok (.iload_n 1, 1) := by decide +kernel
theorem dX12_joinsSymbols_52 : decode cX12_joinsSymbols 52 = .ok (.iload_n 3, 1) := by decide +kernel
theorem dX12_joinsSymbols_53 : decode cX12_joinsSymbols 53 = .ok (.invokevirtual 109, 3) := by decide +kernel
theorem dX12_joinsSymbols_56 : decode cX12_joinsSymbols 56 = .ok (.iconst 1, 1) := by decide +kernel
theorem dX12_joinsSymbols_57 : decode cX12_joinsSymbols 57 = .ok (.iadd, 1) := by decide +kernel
theorem dX12_joinsSymbols_58 : decode cX12_joinsSymbols 58 = .ok (.iconst 1, 1) := by decide +kernel
theorem dX12_joinsSymbols_59 : decode cX12_joinsSymbols 59 = .ok (.bastore, 1) := by decide +kernel
theorem dX12_joinsSymbols_60 : decode cX12_joinsSymbols 60 = .ok (.aload_n 0, 1) := by decide +kernel
theorem dX12_joinsSymbols_61 : decode cX12_joinsSymbols 61 = .ok (.aload_n 0, 1) := by decide +kernel
theorem dX12_joinsSymbols_62 : decode cX12_joinsSymbols 62 = .ok (.getfield 57, 3) := by decide +kernel
theorem dX12_joinsSymbols_65 : decode cX12_joinsSymbols 65 = .ok (.iconst 0, 1) := by decide +kernel
theorem dX12_joinsSymbols_66 : decode cX12_joinsSymbols 66 = .ok (.invokevirtual 143, 3) := by decide +kernel
theorem dX12_joinsSymbols_69 : decode cX12_joinsSymbols 69 = .ok (.aload_n 0, 1) := by decide +kernel
theorem dX12_joinsSymbols_70 : decode cX12_joinsSymbols 70 = .ok (.getfield 57, 3) := by decide +kernel
theorem dX12_joinsSymbols_73 : decode cX12_joinsSymbols 73 = .ok (.aload_n 0, 1) := by decide +kernel
theorem dX12_joinsSymbols_74 : decode cX12_joinsSymbols 74 = .ok (.iload_n 1, 1) := by decide +kernel
theorem dX12_joinsSymbols_75 : decode cX12_joinsSymbols 75 = .ok (.iload_n 3, 1) := by decide +kernel
theorem dX12_joinsSymbols_76 : decode cX12_joinsSymbols 76 = .ok (.invokevirtual 109, 3) := by decide +kernel
theorem dX12_joinsSymbols_79 : decode cX12_joinsSymbols 79 = .ok (.iconst 1, 1) := by decide +kernel
theorem dX12_joinsSymbols_80 : decode cX12_joinsSymbols 80 = .ok (.iadd, 1) := by decide +kernel
theorem dX12_joinsSymbols_81 : decode cX12_joinsSymbols 81 = .ok (.iconst 0, 1) := by decide +kernel
theorem dX12_joinsSymbols_82 : decode cX12_joinsSymbols 82 = .ok (.bastore, 1) := by decide +kernel
theorem dX12_joinsSymbols_83 : decode cX12_joinsSymbols 83 = .ok (.iinc 3 1, 3) := by decide +kernel
theorem dX12_joinsSymbols_86 : decode cX12_joinsSymbols 86 = .ok (.goto (-84), 3) := by decide +kernel
theorem dX12_joinsSymbols_89 : decode cX12_joinsSymbols 89 = .ok (.return_, 1) := by decide +kernel
theorem dX12_enters_0 : decode cX12_enters 0 = .ok (.iconst 0, 1) := by decide +kernel
theorem dX12_enters_1 : decode cX12_enters 1 = .ok (.istore_n 3, 1) := by decide +kernel
theorem dX12_enters_2 : decode cX12_enters 2 = .ok (.iconst 0, 1) := by decide +kernel
theorem dX12_enters_3 : decode cX12_enters 3 = .ok (.istore 4, 2) := by decide +kernel
theorem dX12_enters_5 : decode cX12_enters 5 = .ok (.iload 4, 2) := by decide +kernel
theorem dX12_enters_7 : decode cX12_enters 7 = .ok (.sipush 216, 3) := by decide +kernel
theorem dX12_enters_10 : decode cX12_enters 10 = .ok (.if_icmp .ge 68, 3) := by decide +kernel
theorem dX12_enters_13 : decode cX12_enters 13 = .ok (.iload_n 3, 1) := by decide +kernel
theorem dX12_enters_14 : decode cX12_enters 14 = .ok (.ifCond .ne 22, 3) := by decide +kernel
theorem dX12_enters_17 : decode cX12_enters 17 = .ok (.aload_n 0, 1) := by decide +kernel
theorem dX12_enters_18 : decode cX12_enters 18 = .ok (.getfield 51, 3) := by decide +kernel
theorem dX12_enters_21 : decode cX12_enters 21 = .ok (.iload 4, 2) := by decide +kernel
theorem dX12_enters_23 : decode cX12_enters 23 = .ok (.baload, 1) := by decide +kernel
theorem dX12_enters_24 : decode cX12_enters 24 = .ok (.ifCond .eq 16, 3) := by decide +kernel
theorem dX12_enters_27 : decode cX12_enters 27 = .ok (.aload_n 1, 1) := by decide +kernel
theorem dX12_enters_28 : decode cX12_enters 28 = .ok (.iload_n 2, 1) := by decide +kernel
theorem dX12_enters_29 : decode cX12_enters 29 = .ok (.iload 4, 2) := by decide +kernel
theorem dX12_enters_31 : decode cX12_enters 31 = .ok (.iadd, 1) := by decide +kernel
theorem dX12_enters_32 : decode cX12_enters 32 = .ok (.baload, 1) := by decide +kernel
theorem dX12_enters_33 : decode cX12_enters 33 = .ok (.ifCond .ne 7, 3) := by decide +kernel
theorem dX12_enters_36 : decode cX12_enters 36 = .ok (.iconst 1, 1) := by decide +kernel
theorem dX12_enters_37 : decode cX12_enters 37 = .ok (.goto 4, 3) := by decide +kernel
theorem dX12_enters_40 : decode cX12_enters 40 = .ok (.iconst 0, 1) := by decide +kernel
theorem dX12_enters_41 : decode cX12_enters 41 = .ok (.istore_n 3, 1) := by decide +kernel
theorem dX12_enters_42 : decode cX12_enters 42 = .ok (.aload_n 1, 1) := by decide +kernel
theorem dX12_enters_43 : decode cX12_enters 43 = .ok (.iload_n 2, 1) := by decide +kernel
theorem dX12_enters_44 : decode cX12_enters 44 = .ok (.iload 4, 2) := by decide +kernel
theorem dX12_enters_46 : decode cX12_enters 46 = .ok (.iadd, 1) := by decide +kernel
theorem dX12_enters_47 : decode cX12_enters 47 = .ok (.aload_n 1, 1) := by decide +kernel
theorem dX12_enters_48 : decode cX12_enters 48 = .ok (.iload_n 2, 1) := by decide +kernel
theorem dX12_enters_49 : decode cX12_enters 49 = .ok (.iload 4, 2) := by decide +kernel
theorem dX12_enters_51 : decode cX12_enters 51 = .ok (.iadd, 1) := by decide +kernel
theorem dX12_enters_52 : decode cX12_enters 52 = .ok (.baload, 1) := by decide +kernel
theorem dX12_enters_53 : decode cX12_enters 53 = .ok (.ifCond .ne 13, 3) := by decide +kernel
theorem dX12_enters_56 : decode cX12_enters 56 = .ok (.aload_n 0, 1) := by decide +kernel
theorem dX12_enters_57 : decode cX12_enters 57 = .ok (.getfield 51, 3) := by decide +kernel
theorem dX12_enters_60 : decode cX12_enters 60 = .ok (.iload 4, 2) := by decide +kernel
theorem dX12_enters_62 : decode cX12_enters 62 = .ok (.baload, 1) := by decide +kernel
theorem dX12_enters_63 : decode cX12_enters 63 = .ok (.ifCond .eq 7, 3) := by decide +kernel
theorem dX12_enters_66 : decode cX12_enters 66 = .ok (.iconst 1, 1) := by decide +kernel
theorem dX12_enters_67 : decode cX12_enters 67 = .ok (.goto 4, 3) := by decide +kernel
theorem dX12_enters_70 : decode cX12_enters 70 = .ok (.iconst 0, 1) := by decide +kernel
theorem dX12_enters_71 : decode cX12_enters 71 = .ok (.bastore, 1) := by decide +kernel
theorem dX12_enters_72 : decode cX12_enters 72 = .ok (.iinc 4 1, 3) := by decide +kernel
theorem dX12_enters_75 : decode cX12_enters 75 = .ok (.goto (-70), 3) := by decide +kernel
theorem dX12_enters_78 : decode cX12_enters 78 = .ok (.iload_n 3, 1) := by decide +kernel
theorem dX12_enters_79 : decode cX12_enters 79 = .ok (.ireturn, 1) := by decide +kernel
theorem dX12_laysFirsts_0 : decode cX12_laysFirsts 0 = .ok (.iconst 0, 1) := by decide +kernel
theorem dX12_laysFirsts_1 : decode cX12_laysFirsts 1 = .ok (.istore_n 1, 1) := by decide +kernel
theorem dX12_laysFirsts_2 : decode cX12_laysFirsts 2 = .ok (.iload_n 1, 1) := by decide +kernel
theorem dX12_laysFirsts_3 : decode cX12_laysFirsts 3 = .ok (.sipush 1296, 3) := by decide +kernel
theorem dX12_laysFirsts_6 : decode cX12_laysFirsts 6 = .ok (.if_icmp .ge 16, 3) := by decide +kernel
theorem dX12_laysFirsts_9 : decode cX12_laysFirsts 9 = .ok (.aload_n 0, 1) := by decide +kernel
theorem dX12_laysFirsts_10 : decode cX12_laysFirsts 10 = .ok (.getfield 42, 3) := by decide +kernel
theorem dX12_laysFirsts_13 : decode cX12_laysFirsts 13 = .ok (.iload_n 1, 1) := by decide +kernel
theorem dX12_laysFirsts_14 : decode cX12_laysFirsts 14 = .ok (.iconst 0, 1) := by decide +kernel
theorem dX12_laysFirsts_15 : decode cX12_laysFirsts 15 = .ok (.bastore, 1) := by decide +kernel
theorem dX12_laysFirsts_16 : decode cX12_laysFirsts 16 = .ok (.iinc 1 1, 3) := by decide +kernel
theorem dX12_laysFirsts_19 : decode cX12_laysFirsts 19 = .ok (.goto (-17), 3) := by decide +kernel
theorem dX12_laysFirsts_22 : decode cX12_laysFirsts 22 = .ok (.iconst 1, 1) := by decide +kernel
theorem dX12_laysFirsts_23 : decode cX12_laysFirsts 23 = .ok (.istore_n 1, 1) := by decide +kernel
theorem dX12_laysFirsts_24 : decode cX12_laysFirsts 24 = .ok (.iload_n 1, 1) := by decide +kernel
theorem dX12_laysFirsts_25 : decode cX12_laysFirsts 25 = .ok (.ifCond .eq 64, 3) := by decide +kernel
theorem dX12_laysFirsts_28 : decode cX12_laysFirsts 28 = .ok (.iconst 0, 1) := by decide +kernel
theorem dX12_laysFirsts_29 : decode cX12_laysFirsts 29 = .ok (.istore_n 1, 1) := by decide +kernel
theorem dX12_laysFirsts_30 : decode cX12_laysFirsts 30 = .ok (.iconst 0, 1) := by decide +kernel
theorem dX12_laysFirsts_31 : decode cX12_laysFirsts 31 = .ok (.istore_n 2, 1) := by decide +kernel
theorem dX12_laysFirsts_32 : decode cX12_laysFirsts 32 = .ok (.iload_n 2, 1) := by decide +kernel
theorem dX12_laysFirsts_33 : decode cX12_laysFirsts 33 = .ok (.aload_n 0, 1) := by decide +kernel
theorem dX12_laysFirsts_34 : decode cX12_laysFirsts 34 = .ok (.invokevirtual 94, 3) := by decide +kernel
theorem dX12_laysFirsts_37 : decode cX12_laysFirsts 37 = .ok (.if_icmp .ge 49, 3) := by decide +kernel
theorem dX12_laysFirsts_40 : decode cX12_laysFirsts 40 = .ok (.aload_n 0, 1) := by decide +kernel
theorem dX12_laysFirsts_41 : decode cX12_laysFirsts 41 = .ok (.invokevirtual 147, 3) := by decide +kernel
theorem dX12_laysFirsts_44 : decode cX12_laysFirsts 44 = .ok (.aload_n 0, 1) := by decide +kernel
theorem dX12_laysFirsts_45 : decode cX12_laysFirsts 45 = .ok (.iload_n 2, 1) := by decide +kernel
theorem dX12_laysFirsts_46 : decode cX12_laysFirsts 46 = .ok (.iconst 0, 1) := by decide +kernel
theorem dX12_laysFirsts_47 : decode cX12_laysFirsts 47 = .ok (.invokevirtual 150, 3) := by decide +kernel
theorem dX12_laysFirsts_50 : decode cX12_laysFirsts 50 = .ok (.aload_n 0, 1) := by decide +kernel
theorem dX12_laysFirsts_51 : decode cX12_laysFirsts 51 = .ok (.aload_n 0, 1) := by decide +kernel
theorem dX12_laysFirsts_52 : decode cX12_laysFirsts 52 = .ok (.getfield 42, 3) := by decide +kernel
theorem dX12_laysFirsts_55 : decode cX12_laysFirsts 55 = .ok (.sipush 216, 3) := by decide +kernel
theorem dX12_laysFirsts_58 : decode cX12_laysFirsts 58 = .ok (.aload_n 0, 1) := by decide +kernel
theorem dX12_laysFirsts_59 : decode cX12_laysFirsts 59 = .ok (.iload_n 2, 1) := by decide +kernel
theorem dX12_laysFirsts_60 : decode cX12_laysFirsts 60 = .ok (.invokevirtual 102, 3) := by decide +kernel
theorem dX12_laysFirsts_63 : decode cX12_laysFirsts 63 = .ok (.imul, 1) := by decide +kernel
theorem dX12_laysFirsts_64 : decode cX12_laysFirsts 64 = .ok (.invokevirtual 154, 3) := by decide +kernel
theorem dX12_laysFirsts_67 : decode cX12_laysFirsts 67 = .ok (.ifCond .ne 7, 3) := by decide +kernel
theorem dX12_laysFirsts_70 : decode cX12_laysFirsts 70 = .ok (.iload_n 1, 1) := by decide +kernel
theorem dX12_laysFirsts_71 : decode cX12_laysFirsts 71 = .ok (.ifCond .eq 7, 3) := by decide +kernel
theorem dX12_laysFirsts_74 : decode cX12_laysFirsts 74 = .ok (.iconst 1, 1) := by decide +kernel
theorem dX12_laysFirsts_75 : decode cX12_laysFirsts 75 = .ok (.goto 4, 3) := by decide +kernel
theorem dX12_laysFirsts_78 : decode cX12_laysFirsts 78 = .ok (.iconst 0, 1) := by decide +kernel
theorem dX12_laysFirsts_79 : decode cX12_laysFirsts 79 = .ok (.istore_n 1, 1) := by decide +kernel
theorem dX12_laysFirsts_80 : decode cX12_laysFirsts 80 = .ok (.iinc 2 1, 3) := by decide +kernel
theorem dX12_laysFirsts_83 : decode cX12_laysFirsts 83 = .ok (.goto (-51), 3) := by decide +kernel
theorem dX12_laysFirsts_86 : decode cX12_laysFirsts 86 = .ok (.goto (-62), 3) := by decide +kernel
theorem dX12_laysFirsts_89 : decode cX12_laysFirsts 89 = .ok (.return_, 1) := by decide +kernel
theorem dX12_laysFollows_0 : decode cX12_laysFollows 0 = .ok (.iconst 0, 1) := by decide +kernel
theorem dX12_laysFollows_1 : decode cX12_laysFollows 1 = .ok (.istore_n 1, 1) := by decide +kernel
theorem dX12_laysFollows_2 : decode cX12_laysFollows 2 = .ok (.iload_n 1, 1) := by decide +kernel
theorem dX12_laysFollows_3 : decode cX12_laysFollows 3 = .ok (.sipush 1296, 3) := by decide +kernel
theorem dX12_laysFollows_6 : decode cX12_laysFollows 6 = .ok (.if_icmp .ge 32, 3) := by decide +kernel
theorem dX12_laysFollows_9 : decode cX12_laysFollows 9 = .ok (.aload_n 0, 1) := by decide +kernel
theorem dX12_laysFollows_10 : decode cX12_laysFollows 10 = .ok (.getfield 45, 3) := by decide +kernel
theorem dX12_laysFollows_13 : decode cX12_laysFollows 13 = .ok (.iload_n 1, 1) := by decide +kernel
theorem dX12_laysFollows_14 : decode cX12_laysFollows 14 = .ok (.iload_n 1, 1) := by decide +kernel
theorem dX12_laysFollows_15 : decode cX12_laysFollows 15 = .ok (.sipush 216, 3) := by decide +kernel
theorem dX12_laysFollows_18 : decode cX12_laysFollows 18 = .ok (.aload_n 0, 1) := by decide +kernel
theorem dX12_laysFollows_19 : decode cX12_laysFollows 19 = .ok (.invokevirtual 124, 3) := by decide +kernel
theorem dX12_laysFollows_22 : decode cX12_laysFollows 22 = .ok (.imul, 1) := by decide +kernel
theorem dX12_laysFollows_23 : decode cX12_laysFollows 23 = .ok (.if_icmp .ne 7, 3) := by decide +kernel
theorem dX12_laysFollows_26 : decode cX12_laysFollows 26 = .ok (.iconst 1, 1) := by decide +kernel
theorem dX12_laysFollows_27 : decode cX12_laysFollows 27 = .ok (.goto 4, 3) := by decide +kernel
theorem dX12_laysFollows_30 : decode cX12_laysFollows 30 = .ok (.iconst 0, 1) := by decide +kernel
theorem dX12_laysFollows_31 : decode cX12_laysFollows 31 = .ok (.bastore, 1) := by decide +kernel
theorem dX12_laysFollows_32 : decode cX12_laysFollows 32 = .ok (.iinc 1 1, 3) := by decide +kernel
theorem dX12_laysFollows_35 : decode cX12_laysFollows 35 = .ok (.goto (-33), 3) := by decide +kernel
theorem dX12_laysFollows_38 : decode cX12_laysFollows 38 = .ok (.iconst 1, 1) := by decide +kernel
theorem dX12_laysFollows_39 : decode cX12_laysFollows 39 = .ok (.istore_n 1, 1) := by decide +kernel
theorem dX12_laysFollows_40 : decode cX12_laysFollows 40 = .ok (.iload_n 1, 1) := by decide +kernel
theorem dX12_laysFollows_41 : decode cX12_laysFollows 41 = .ok (.ifCond .eq 115, 3) := by decide +kernel
theorem dX12_laysFollows_44 : decode cX12_laysFollows 44 = .ok (.iconst 0, 1) := by decide +kernel
theorem dX12_laysFollows_45 : decode cX12_laysFollows 45 = .ok (.istore_n 1, 1) := by decide +kernel
theorem dX12_laysFollows_46 : decode cX12_laysFollows 46 = .ok (.iconst 0, 1) := by decide +kernel
theorem dX12_laysFollows_47 : decode cX12_laysFollows 47 = .ok (.istore_n 2, 1) := by decide +kernel
theorem dX12_laysFollows_48 : decode cX12_laysFollows 48 = .ok (.iload_n 2, 1) := by decide +kernel
theorem dX12_laysFollows_49 : decode cX12_laysFollows 49 = .ok (.aload_n 0, 1) := by decide +kernel
theorem dX12_laysFollows_50 : decode cX12_laysFollows 50 = .ok (.invokevirtual 94, 3) := by decide +kernel
theorem dX12_laysFollows_53 : decode cX12_laysFollows 53 = .ok (.if_icmp .ge 100, 3) := by decide +kernel
theorem dX12_laysFollows_56 : decode cX12_laysFollows 56 = .ok (.iconst 0, 1) := by decide +kernel
theorem dX12_laysFollows_57 : decode cX12_laysFollows 57 = .ok (.istore_n 3, 1) := by decide +kernel
theorem dX12_laysFollows_58 : decode cX12_laysFollows 58 = .ok (.iload_n 3, 1) := by decide +kernel
theorem dX12_laysFollows_59 : decode cX12_laysFollows 59 = .ok (.aload_n 0, 1) := by decide +kernel
theorem dX12_laysFollows_60 : decode cX12_laysFollows 60 = .ok (.iload_n 2, 1) := by decide +kernel
theorem dX12_laysFollows_61 : decode cX12_laysFollows 61 = .ok (.invokevirtual 117, 3) := by decide +kernel
theorem dX12_laysFollows_64 : decode cX12_laysFollows 64 = .ok (.if_icmp .ge 83, 3) := by decide +kernel
theorem dX12_laysFollows_67 : decode cX12_laysFollows 67 = .ok (.aload_n 0, 1) := by decide +kernel
theorem dX12_laysFollows_68 : decode cX12_laysFollows 68 = .ok (.iload_n 2, 1) := by decide +kernel
theorem dX12_laysFollows_69 : decode cX12_laysFollows 69 = .ok (.iload_n 3, 1) := by decide +kernel
theorem dX12_laysFollows_70 : decode cX12_laysFollows 70 = .ok (.invokevirtual 109, 3) := by decide +kernel
theorem dX12_laysFollows_73 : decode cX12_laysFollows 73 = .ok (.bipush 10, 2) := by decide +kernel
theorem dX12_laysFollows_75 : decode cX12_laysFollows 75 = .ok (.if_icmp .lt 66, 3) := by decide +kernel
theorem dX12_laysFollows_78 : decode cX12_laysFollows 78 = .ok (.aload_n 0, 1) := by decide +kernel
theorem dX12_laysFollows_79 : decode cX12_laysFollows 79 = .ok (.invokevirtual 147, 3) := by decide +kernel
theorem dX12_laysFollows_82 : decode cX12_laysFollows 82 = .ok (.aload_n 0, 1) := by decide +kernel
theorem dX12_laysFollows_83 : decode cX12_laysFollows 83 = .ok (.iload_n 2, 1) := by decide +kernel
theorem dX12_laysFollows_84 : decode cX12_laysFollows 84 = .ok (.iload_n 3, 1) := by decide +kernel
theorem dX12_laysFollows_85 : decode cX12_laysFollows 85 = .ok (.iconst 1, 1) := by decide +kernel
theorem dX12_laysFollows_86 : decode cX12_laysFollows 86 = .ok (.iadd, 1) := by decide +kernel
theorem dX12_laysFollows_87 : decode cX12_laysFollows 87 = .ok (.invokevirtual 150, 3) := by decide +kernel
theorem dX12_laysFollows_90 : decode cX12_laysFollows 90 = .ok (.aload_n 0, 1) := by decide +kernel
theorem dX12_laysFollows_91 : decode cX12_laysFollows 91 = .ok (.aload_n 0, 1) := by decide +kernel
theorem dX12_laysFollows_92 : decode cX12_laysFollows 92 = .ok (.getfield 45, 3) := by decide +kernel
theorem dX12_laysFollows_95 : decode cX12_laysFollows 95 = .ok (.sipush 216, 3) := by decide +kernel
theorem dX12_laysFollows_98 : decode cX12_laysFollows 98 = .ok (.aload_n 0, 1) := by decide +kernel
theorem dX12_laysFollows_99 : decode cX12_laysFollows 99 = .ok (.iload_n 2, 1) := by decide +kernel
theorem dX12_laysFollows_100 : decode cX12_laysFollows 100 = .ok (.invokevirtual 102, 3) := by decide +kernel
theorem dX12_laysFollows_103 : decode cX12_laysFollows 103 = .ok (.imul, 1) := by decide +kernel
theorem dX12_laysFollows_104 : decode cX12_laysFollows 104 = .ok (.invokevirtual 143, 3) := by decide +kernel
theorem dX12_laysFollows_107 : decode cX12_laysFollows 107 = .ok (.aload_n 0, 1) := by decide +kernel
theorem dX12_laysFollows_108 : decode cX12_laysFollows 108 = .ok (.aload_n 0, 1) := by decide +kernel
theorem dX12_laysFollows_109 : decode cX12_laysFollows 109 = .ok (.getfield 45, 3) := by decide +kernel
theorem dX12_laysFollows_112 : decode cX12_laysFollows 112 = .ok (.sipush 216, 3) := by decide +kernel
theorem dX12_laysFollows_115 : decode cX12_laysFollows 115 = .ok (.aload_n 0, 1) := by decide +kernel
theorem dX12_laysFollows_116 : decode cX12_laysFollows 116 = .ok (.iload_n 2, 1) := by decide +kernel
theorem dX12_laysFollows_117 : decode cX12_laysFollows 117 = .ok (.iload_n 3, 1) := by decide +kernel
theorem dX12_laysFollows_118 : decode cX12_laysFollows 118 = .ok (.invokevirtual 109, 3) := by decide +kernel
theorem dX12_laysFollows_121 : decode cX12_laysFollows 121 = .ok (.bipush 10, 2) := by decide +kernel
theorem dX12_laysFollows_123 : decode cX12_laysFollows 123 = .ok (.isub, 1) := by decide +kernel
theorem dX12_laysFollows_124 : decode cX12_laysFollows 124 = .ok (.imul, 1) := by decide +kernel
theorem dX12_laysFollows_125 : decode cX12_laysFollows 125 = .ok (.invokevirtual 154, 3) := by decide +kernel
theorem dX12_laysFollows_128 : decode cX12_laysFollows 128 = .ok (.ifCond .ne 7, 3) := by decide +kernel
theorem dX12_laysFollows_131 : decode cX12_laysFollows 131 = .ok (.iload_n 1, 1) := by decide +kernel
theorem dX12_laysFollows_132 : decode cX12_laysFollows 132 = .ok (.ifCond .eq 7, 3) := by decide +kernel
theorem dX12_laysFollows_135 : decode cX12_laysFollows 135 = .ok (.iconst 1, 1) := by decide +kernel
theorem dX12_laysFollows_136 : decode cX12_laysFollows 136 = .ok (.goto 4, 3) := by decide +kernel
theorem dX12_laysFollows_139 : decode cX12_laysFollows 139 = .ok (.iconst 0, 1) := by decide +kernel
theorem dX12_laysFollows_140 : decode cX12_laysFollows 140 = .ok (.istore_n 1, 1) := by decide +kernel
theorem dX12_laysFollows_141 : decode cX12_laysFollows 141 = .ok (.iinc 3 1, 3) := by decide +kernel
theorem dX12_laysFollows_144 : decode cX12_laysFollows 144 = .ok (.goto (-86), 3) := by decide +kernel
theorem dX12_laysFollows_147 : decode cX12_laysFollows 147 = .ok (.iinc 2 1, 3) := by decide +kernel
theorem dX12_laysFollows_150 : decode cX12_laysFollows 150 = .ok (.goto (-102), 3) := by decide +kernel
theorem dX12_laysFollows_153 : decode cX12_laysFollows 153 = .ok (.goto (-113), 3) := by decide +kernel
theorem dX12_laysFollows_156 : decode cX12_laysFollows 156 = .ok (.return_, 1) := by decide +kernel
theorem dX12_laysAheads_0 : decode cX12_laysAheads 0 = .ok (.iconst 0, 1) := by decide +kernel
theorem dX12_laysAheads_1 : decode cX12_laysAheads 1 = .ok (.istore_n 1, 1) := by decide +kernel
theorem dX12_laysAheads_2 : decode cX12_laysAheads 2 = .ok (.iload_n 1, 1) := by decide +kernel
theorem dX12_laysAheads_3 : decode cX12_laysAheads 3 = .ok (.sipush 3456, 3) := by decide +kernel
theorem dX12_laysAheads_6 : decode cX12_laysAheads 6 = .ok (.if_icmp .ge 16, 3) := by decide +kernel
theorem dX12_laysAheads_9 : decode cX12_laysAheads 9 = .ok (.aload_n 0, 1) := by decide +kernel
theorem dX12_laysAheads_10 : decode cX12_laysAheads 10 = .ok (.getfield 48, 3) := by decide +kernel
theorem dX12_laysAheads_13 : decode cX12_laysAheads 13 = .ok (.iload_n 1, 1) := by decide +kernel
theorem dX12_laysAheads_14 : decode cX12_laysAheads 14 = .ok (.iconst 0, 1) := by decide +kernel
theorem dX12_laysAheads_15 : decode cX12_laysAheads 15 = .ok (.bastore, 1) := by decide +kernel
theorem dX12_laysAheads_16 : decode cX12_laysAheads 16 = .ok (.iinc 1 1, 3) := by decide +kernel
theorem dX12_laysAheads_19 : decode cX12_laysAheads 19 = .ok (.goto (-17), 3) := by decide +kernel
theorem dX12_laysAheads_22 : decode cX12_laysAheads 22 = .ok (.iconst 0, 1) := by decide +kernel
theorem dX12_laysAheads_23 : decode cX12_laysAheads 23 = .ok (.istore_n 1, 1) := by decide +kernel
theorem dX12_laysAheads_24 : decode cX12_laysAheads 24 = .ok (.iload_n 1, 1) := by decide +kernel
theorem dX12_laysAheads_25 : decode cX12_laysAheads 25 = .ok (.aload_n 0, 1) := by decide +kernel
theorem dX12_laysAheads_26 : decode cX12_laysAheads 26 = .ok (.invokevirtual 94, 3) := by decide +kernel
theorem dX12_laysAheads_29 : decode cX12_laysAheads 29 = .ok (.if_icmp .ge 50, 3) := by decide +kernel
theorem dX12_laysAheads_32 : decode cX12_laysAheads 32 = .ok (.aload_n 0, 1) := by decide +kernel
theorem dX12_laysAheads_33 : decode cX12_laysAheads 33 = .ok (.invokevirtual 147, 3) := by decide +kernel
theorem dX12_laysAheads_36 : decode cX12_laysAheads 36 = .ok (.aload_n 0, 1) := by decide +kernel
theorem dX12_laysAheads_37 : decode cX12_laysAheads 37 = .ok (.iload_n 1, 1) := by decide +kernel
theorem dX12_laysAheads_38 : decode cX12_laysAheads 38 = .ok (.iconst 0, 1) := by decide +kernel
theorem dX12_laysAheads_39 : decode cX12_laysAheads 39 = .ok (.invokevirtual 150, 3) := by decide +kernel
theorem dX12_laysAheads_42 : decode cX12_laysAheads 42 = .ok (.aload_n 0, 1) := by decide +kernel
theorem dX12_laysAheads_43 : decode cX12_laysAheads 43 = .ok (.aload_n 0, 1) := by decide +kernel
theorem dX12_laysAheads_44 : decode cX12_laysAheads 44 = .ok (.getfield 45, 3) := by decide +kernel
theorem dX12_laysAheads_47 : decode cX12_laysAheads 47 = .ok (.sipush 216, 3) := by decide +kernel
theorem dX12_laysAheads_50 : decode cX12_laysAheads 50 = .ok (.aload_n 0, 1) := by decide +kernel
theorem dX12_laysAheads_51 : decode cX12_laysAheads 51 = .ok (.iload_n 1, 1) := by decide +kernel
theorem dX12_laysAheads_52 : decode cX12_laysAheads 52 = .ok (.invokevirtual 102, 3) := by decide +kernel
theorem dX12_laysAheads_55 : decode cX12_laysAheads 55 = .ok (.imul, 1) := by decide +kernel
theorem dX12_laysAheads_56 : decode cX12_laysAheads 56 = .ok (.invokevirtual 143, 3) := by decide +kernel
theorem dX12_laysAheads_59 : decode cX12_laysAheads 59 = .ok (.aload_n 0, 1) := by decide +kernel
theorem dX12_laysAheads_60 : decode cX12_laysAheads 60 = .ok (.aload_n 0, 1) := by decide +kernel
theorem dX12_laysAheads_61 : decode cX12_laysAheads 61 = .ok (.getfield 48, 3) := by decide +kernel
theorem dX12_laysAheads_64 : decode cX12_laysAheads 64 = .ok (.sipush 216, 3) := by decide +kernel
theorem dX12_laysAheads_67 : decode cX12_laysAheads 67 = .ok (.iload_n 1, 1) := by decide +kernel
theorem dX12_laysAheads_68 : decode cX12_laysAheads 68 = .ok (.imul, 1) := by decide +kernel
theorem dX12_laysAheads_69 : decode cX12_laysAheads 69 = .ok (.invokevirtual 154, 3) := by decide +kernel
theorem dX12_laysAheads_72 : decode cX12_laysAheads 72 = .ok (.istore_n 2, 1) := by decide +kernel
theorem dX12_laysAheads_73 : decode cX12_laysAheads 73 = .ok (.iinc 1 1, 3) := by decide +kernel
theorem dX12_laysAheads_76 : decode cX12_laysAheads 76 = .ok (.goto (-52), 3) := by decide +kernel
theorem dX12_laysAheads_79 : decode cX12_laysAheads 79 = .ok (.return_, 1) := by decide +kernel
theorem dX12_cuts_0 : decode cX12_cuts 0 = .ok (.iconst 0, 1) := by decide +kernel
theorem dX12_cuts_1 : decode cX12_cuts 1 = .ok (.istore_n 1, 1) := by decide +kernel
theorem dX12_cuts_2 : decode cX12_cuts 2 = .ok (.iload_n 1, 1) := by decide +kernel
theorem dX12_cuts_3 : decode cX12_cuts 3 = .ok (.sipush 24192, 3) := by decide +kernel
theorem dX12_cuts_6 : decode cX12_cuts 6 = .ok (.if_icmp .ge 16, 3) := by decide +kernel
theorem dX12_cuts_9 : decode cX12_cuts 9 = .ok (.aload_n 0, 1) := by decide +kernel
theorem dX12_cuts_10 : decode cX12_cuts 10 = .ok (.getfield 60, 3) := by decide +kernel
theorem dX12_cuts_13 : decode cX12_cuts 13 = .ok (.iload_n 1, 1) := by decide +kernel
theorem dX12_cuts_14 : decode cX12_cuts 14 = .ok (.iconst 0, 1) := by decide +kernel
theorem dX12_cuts_15 : decode cX12_cuts 15 = .ok (.bastore, 1) := by decide +kernel
theorem dX12_cuts_16 : decode cX12_cuts 16 = .ok (.iinc 1 1, 3) := by decide +kernel
theorem dX12_cuts_19 : decode cX12_cuts 19 = .ok (.goto (-17), 3) := by decide +kernel
theorem dX12_cuts_22 : decode cX12_cuts 22 = .ok (.iconst 0, 1) := by decide +kernel
theorem dX12_cuts_23 : decode cX12_cuts 23 = .ok (.istore_n 1, 1) := by decide +kernel
theorem dX12_cuts_24 : decode cX12_cuts 24 = .ok (.iload_n 1, 1) := by decide +kernel
theorem dX12_cuts_25 : decode cX12_cuts 25 = .ok (.iconst 4, 1) := by decide +kernel
theorem dX12_cuts_26 : decode cX12_cuts 26 = .ok (.if_icmp .ge 106, 3) := by decide +kernel
theorem dX12_cuts_29 : decode cX12_cuts 29 = .ok (.iconst 0, 1) := by decide +kernel
theorem dX12_cuts_30 : decode cX12_cuts 30 = .ok (.istore_n 2, 1) := by decide +kernel
theorem dX12_cuts_31 : decode cX12_cuts 31 = .ok (.iload_n 2, 1) := by decide +kernel
theorem dX12_cuts_32 : decode cX12_cuts 32 = .ok (.sipush 6048, 3) := by decide +kernel
theorem dX12_cuts_35 : decode cX12_cuts 35 = .ok (.if_icmp .ge 91, 3) := by decide +kernel
theorem dX12_cuts_38 : decode cX12_cuts 38 = .ok (.iload_n 2, 1) := by decide +kernel
theorem dX12_cuts_39 : decode cX12_cuts 39 = .ok (.sipush 1296, 3) := by decide +kernel
theorem dX12_cuts_42 : decode cX12_cuts 42 = .ok (.if_icmp .ge 12, 3) := by decide +kernel
theorem dX12_cuts_45 : decode cX12_cuts 45 = .ok (.aload_n 0, 1) := by decide +kernel
theorem dX12_cuts_46 : decode cX12_cuts 46 = .ok (.getfield 42, 3) := by decide +kernel
theorem dX12_cuts_49 : decode cX12_cuts 49 = .ok (.iload_n 2, 1) := by decide +kernel
theorem dX12_cuts_50 : decode cX12_cuts 50 = .ok (.baload, 1) := by decide +kernel
theorem dX12_cuts_51 : decode cX12_cuts 51 = .ok (.goto 33, 3) := by decide +kernel
theorem dX12_cuts_54 : decode cX12_cuts 54 = .ok (.iload_n 2, 1) := by decide +kernel
theorem dX12_cuts_55 : decode cX12_cuts 55 = .ok (.sipush 2592, 3) := by decide +kernel
theorem dX12_cuts_58 : decode cX12_cuts 58 = .ok (.if_icmp .ge 16, 3) := by decide +kernel
theorem dX12_cuts_61 : decode cX12_cuts 61 = .ok (.aload_n 0, 1) := by decide +kernel
theorem dX12_cuts_62 : decode cX12_cuts 62 = .ok (.getfield 45, 3) := by decide +kernel
theorem dX12_cuts_65 : decode cX12_cuts 65 = .ok (.iload_n 2, 1) := by decide +kernel
theorem dX12_cuts_66 : decode cX12_cuts 66 = .ok (.sipush 1296, 3) := by decide +kernel
theorem dX12_cuts_69 : decode cX12_cuts 69 = .ok (.isub, 1) := by decide +kernel
theorem dX12_cuts_70 : decode cX12_cuts 70 = .ok (.baload, 1) := by decide +kernel
theorem dX12_cuts_71 : decode cX12_cuts 71 = .ok (.goto 13, 3) := by decide +kernel
theorem dX12_cuts_74 : decode cX12_cuts 74 = .ok (.aload_n 0, 1) := by decide +kernel
theorem dX12_cuts_75 : decode cX12_cuts 75 = .ok (.getfield 48, 3) := by decide +kernel
theorem dX12_cuts_78 : decode cX12_cuts 78 = .ok (.iload_n 2, 1) := by decide +kernel
theorem dX12_cuts_79 : decode cX12_cuts 79 = .ok (.sipush 2592, 3) := by decide +kernel
theorem dX12_cuts_82 : decode cX12_cuts 82 = .ok (.isub, 1) := by decide +kernel
theorem dX12_cuts_83 : decode cX12_cuts 83 = .ok (.baload, 1) := by decide +kernel
theorem dX12_cuts_84 : decode cX12_cuts 84 = .ok (.istore_n 3, 1) := by decide +kernel
theorem dX12_cuts_85 : decode cX12_cuts 85 = .ok (.iload_n 3, 1) := by decide +kernel
theorem dX12_cuts_86 : decode cX12_cuts 86 = .ok (.ifCond .eq 34, 3) := by decide +kernel
theorem dX12_cuts_89 : decode cX12_cuts 89 = .ok (.aload_n 0, 1) := by decide +kernel
theorem dX12_cuts_90 : decode cX12_cuts 90 = .ok (.getfield 60, 3) := by decide +kernel
theorem dX12_cuts_93 : decode cX12_cuts 93 = .ok (.sipush 6048, 3) := by decide +kernel
theorem dX12_cuts_96 : decode cX12_cuts 96 = .ok (.iload_n 1, 1) := by decide +kernel
theorem dX12_cuts_97 : decode cX12_cuts 97 = .ok (.imul, 1) := by decide +kernel
theorem dX12_cuts_98 : decode cX12_cuts 98 = .ok (.iload_n 2, 1) := by decide +kernel
theorem dX12_cuts_99 : decode cX12_cuts 99 = .ok (.sipush 216, 3) := by decide +kernel
theorem dX12_cuts_102 : decode cX12_cuts 102 = .ok (.idiv, 1) := by decide +kernel
theorem dX12_cuts_103 : decode cX12_cuts 103 = .ok (.sipush 216, 3) := by decide +kernel
theorem dX12_cuts_106 : decode cX12_cuts 106 = .ok (.imul, 1) := by decide +kernel
theorem dX12_cuts_107 : decode cX12_cuts 107 = .ok (.iadd, 1) := by decide +kernel
theorem dX12_cuts_108 : decode cX12_cuts 108 = .ok (.iload_n 2, 1) := by decide +kernel
theorem dX12_cuts_109 : decode cX12_cuts 109 = .ok (.sipush 216, 3) := by decide +kernel
theorem dX12_cuts_112 : decode cX12_cuts 112 = .ok (.irem, 1) := by decide +kernel
theorem dX12_cuts_113 : decode cX12_cuts 113 = .ok (.iload_n 1, 1) := by decide +kernel
theorem dX12_cuts_114 : decode cX12_cuts 114 = .ok (.invokestatic 137, 3) := by decide +kernel
theorem dX12_cuts_117 : decode cX12_cuts 117 = .ok (.iadd, 1) := by decide +kernel
theorem dX12_cuts_118 : decode cX12_cuts 118 = .ok (.iconst 1, 1) := by decide +kernel
theorem dX12_cuts_119 : decode cX12_cuts 119 = .ok (.bastore, 1) := by decide +kernel
theorem dX12_cuts_120 : decode cX12_cuts 120 = .ok (.iinc 2 1, 3) := by decide +kernel
theorem dX12_cuts_123 : decode cX12_cuts 123 = .ok (.goto (-92), 3) := by decide +kernel
theorem dX12_cuts_126 : decode cX12_cuts 126 = .ok (.iinc 1 1, 3) := by decide +kernel
theorem dX12_cuts_129 : decode cX12_cuts 129 = .ok (.goto (-105), 3) := by decide +kernel
theorem dX12_cuts_132 : decode cX12_cuts 132 = .ok (.return_, 1) := by decide +kernel
theorem dX12_lays_0 : decode cX12_lays 0 = .ok (.aload_n 0, 1) := by decide +kernel
theorem dX12_lays_1 : decode cX12_lays 1 = .ok (.invokevirtual 158, 3) := by decide +kernel
theorem dX12_lays_4 : decode cX12_lays 4 = .ok (.aload_n 0, 1) := by decide +kernel
theorem dX12_lays_5 : decode cX12_lays 5 = .ok (.invokevirtual 161, 3) := by decide +kernel
theorem dX12_lays_8 : decode cX12_lays 8 = .ok (.aload_n 0, 1) := by decide +kernel
theorem dX12_lays_9 : decode cX12_lays 9 = .ok (.invokevirtual 164, 3) := by decide +kernel
theorem dX12_lays_12 : decode cX12_lays 12 = .ok (.aload_n 0, 1) := by decide +kernel
theorem dX12_lays_13 : decode cX12_lays 13 = .ok (.invokevirtual 167, 3) := by decide +kernel
theorem dX12_lays_16 : decode cX12_lays 16 = .ok (.aload_n 0, 1) := by decide +kernel
theorem dX12_lays_17 : decode cX12_lays 17 = .ok (.invokevirtual 170, 3) := by decide +kernel
theorem dX12_lays_20 : decode cX12_lays 20 = .ok (.aload_n 0, 1) := by decide +kernel
theorem dX12_lays_21 : decode cX12_lays 21 = .ok (.invokevirtual 173, 3) := by decide +kernel
theorem dX12_lays_24 : decode cX12_lays 24 = .ok (.aload_n 0, 1) := by decide +kernel
theorem dX12_lays_25 : decode cX12_lays 25 = .ok (.invokevirtual 176, 3) := by decide +kernel
theorem dX12_lays_28 : decode cX12_lays 28 = .ok (.aload_n 0, 1) := by decide +kernel
theorem dX12_lays_29 : decode cX12_lays 29 = .ok (.invokevirtual 179, 3) := by decide +kernel
theorem dX12_lays_32 : decode cX12_lays 32 = .ok (.return_, 1) := by decide +kernel
theorem dX12_has_0 : decode cX12_has 0 = .ok (.aload_n 0, 1) := by decide +kernel
theorem dX12_has_1 : decode cX12_has 1 = .ok (.getfield 60, 3) := by decide +kernel
theorem dX12_has_4 : decode cX12_has 4 = .ok (.sipush 6048, 3) := by decide +kernel
theorem dX12_has_7 : decode cX12_has 7 = .ok (.iload_n 2, 1) := by decide +kernel
theorem dX12_has_8 : decode cX12_has 8 = .ok (.imul, 1) := by decide +kernel
theorem dX12_has_9 : decode cX12_has 9 = .ok (.iload_n 1, 1) := by decide +kernel
theorem dX12_has_10 : decode cX12_has 10 = .ok (.iadd, 1) := by decide +kernel
theorem dX12_has_11 : decode cX12_has 11 = .ok (.iload_n 3, 1) := by decide +kernel
theorem dX12_has_12 : decode cX12_has 12 = .ok (.iadd, 1) := by decide +kernel
theorem dX12_has_13 : decode cX12_has 13 = .ok (.baload, 1) := by decide +kernel
theorem dX12_has_14 : decode cX12_has 14 = .ok (.ireturn, 1) := by decide +kernel
theorem dX12_count_0 : decode cX12_count 0 = .ok (.iconst 0, 1) := by decide +kernel
theorem dX12_count_1 : decode cX12_count 1 = .ok (.istore_n 3, 1) := by decide +kernel
theorem dX12_count_2 : decode cX12_count 2 = .ok (.iconst 0, 1) := by decide +kernel
theorem dX12_count_3 : decode cX12_count 3 = .ok (.istore 4, 2) := by decide +kernel
theorem dX12_count_5 : decode cX12_count 5 = .ok (.iload 4, 2) := by decide +kernel
theorem dX12_count_7 : decode cX12_count 7 = .ok (.sipush 216, 3) := by decide +kernel
theorem dX12_count_10 : decode cX12_count 10 = .ok (.if_icmp .ge 28, 3) := by decide +kernel
theorem dX12_count_13 : decode cX12_count 13 = .ok (.iload_n 3, 1) := by decide +kernel
theorem dX12_count_14 : decode cX12_count 14 = .ok (.aload_n 0, 1) := by decide +kernel
theorem dX12_count_15 : decode cX12_count 15 = .ok (.iload_n 1, 1) := by decide +kernel
theorem dX12_count_16 : decode cX12_count 16 = .ok (.iload_n 2, 1) := by decide +kernel
theorem dX12_count_17 : decode cX12_count 17 = .ok (.iload 4, 2) := by decide +kernel
theorem dX12_count_19 : decode cX12_count 19 = .ok (.invokevirtual 182, 3) := by decide +kernel
theorem dX12_count_22 : decode cX12_count 22 = .ok (.ifCond .eq 7, 3) := by decide +kernel
theorem dX12_count_25 : decode cX12_count 25 = .ok (.iconst 1, 1) := by decide +kernel
theorem dX12_count_26 : decode cX12_count 26 = .ok (.goto 4, 3) := by decide +kernel
theorem dX12_count_29 : decode cX12_count 29 = .ok (.iconst 0, 1) := by decide +kernel
theorem dX12_count_30 : decode cX12_count 30 = .ok (.iadd, 1) := by decide +kernel
theorem dX12_count_31 : decode cX12_count 31 = .ok (.istore_n 3, 1) := by decide +kernel
theorem dX12_count_32 : decode cX12_count 32 = .ok (.iinc 4 1, 3) := by decide +kernel
theorem dX12_count_35 : decode cX12_count 35 = .ok (.goto (-30), 3) := by decide +kernel
theorem dX12_count_38 : decode cX12_count 38 = .ok (.iload_n 3, 1) := by decide +kernel
theorem dX12_count_39 : decode cX12_count 39 = .ok (.ireturn, 1) := by decide +kernel
theorem dX12_type_0 : decode cX12_type 0 = .ok (.iload_n 1, 1) := by decide +kernel
theorem dX12_type_1 : decode cX12_type 1 = .ok (.bipush 33, 2) := by decide +kernel
theorem dX12_type_3 : decode cX12_type 3 = .ok (.bipush 126, 2) := by decide +kernel
theorem dX12_type_5 : decode cX12_type 5 = .ok (.invokestatic 98, 3) := by decide +kernel
theorem dX12_type_8 : decode cX12_type 8 = .ok (.ifCond .ne 5, 3) := by decide +kernel
theorem dX12_type_11 : decode cX12_type 11 = .ok (.iconst (-1), 1) := by decide +kernel
theorem dX12_type_12 : decode cX12_type 12 = .ok (.ireturn, 1) := by decide +kernel
theorem dX12_type_13 : decode cX12_type 13 = .ok (.aload_n 0, 1) := by decide +kernel
theorem dX12_type_14 : decode cX12_type 14 = .ok (.getfield 185, 3) := by decide +kernel
theorem dX12_type_17 : decode cX12_type 17 = .ok (.bipush 100, 2) := by decide +kernel
theorem dX12_type_19 : decode cX12_type 19 = .ok (.if_icmp .ne 6, 3) := by decide +kernel
theorem dX12_type_22 : decode cX12_type 22 = .ok (.bipush (-3), 2) := by decide +kernel
theorem dX12_type_24 : decode cX12_type 24 = .ok (.ireturn, 1) := by decide +kernel
theorem dX12_type_25 : decode cX12_type 25 = .ok (.aload_n 0, 1) := by decide +kernel
theorem dX12_type_26 : decode cX12_type 26 = .ok (.getfield 16, 3) := by decide +kernel
theorem dX12_type_29 : decode cX12_type 29 = .ok (.aload_n 0, 1) := by decide +kernel
theorem dX12_type_30 : decode cX12_type 30 = .ok (.getfield 185, 3) := by decide +kernel
theorem dX12_type_33 : decode cX12_type 33 = .ok (.iload_n 1, 1) := by decide +kernel
theorem dX12_type_34 : decode cX12_type 34 = .ok (.iastore, 1) := by decide +kernel
theorem dX12_type_35 : decode cX12_type 35 = .ok (.aload_n 0, 1) := by decide +kernel
theorem dX12_type_36 : decode cX12_type 36 = .ok (.dup, 1) := by decide +kernel
theorem dX12_type_37 : decode cX12_type 37 = .ok (.getfield 185, 3) := by decide +kernel
theorem dX12_type_40 : decode cX12_type 40 = .ok (.iconst 1, 1) := by decide +kernel
theorem dX12_type_41 : decode cX12_type 41 = .ok (.iadd, 1) := by decide +kernel
theorem dX12_type_42 : decode cX12_type 42 = .ok (.putfield 185, 3) := by decide +kernel
theorem dX12_type_45 : decode cX12_type 45 = .ok (.aload_n 0, 1) := by decide +kernel
theorem dX12_type_46 : decode cX12_type 46 = .ok (.getfield 185, 3) := by decide +kernel
theorem dX12_type_49 : decode cX12_type 49 = .ok (.ireturn, 1) := by decide +kernel
theorem dX12_clear_0 : decode cX12_clear 0 = .ok (.aload_n 0, 1) := by decide +kernel
theorem dX12_clear_1 : decode cX12_clear 1 = .ok (.getfield 185, 3) := by decide +kernel
theorem dX12_clear_4 : decode cX12_clear 4 = .ok (.istore_n 1, 1) := by decide +kernel
theorem dX12_clear_5 : decode cX12_clear 5 = .ok (.aload_n 0, 1) := by decide +kernel
theorem dX12_clear_6 : decode cX12_clear 6 = .ok (.iconst 0, 1) := by decide +kernel
theorem dX12_clear_7 : decode cX12_clear 7 = .ok (.putfield 185, 3) := by decide +kernel
theorem dX12_clear_10 : decode cX12_clear 10 = .ok (.iload_n 1, 1) := by decide +kernel
theorem dX12_clear_11 : decode cX12_clear 11 = .ok (.ireturn, 1) := by decide +kernel
theorem dX12_isAt_0 : decode cX12_isAt 0 = .ok (.aload_n 0, 1) := by decide +kernel
theorem dX12_isAt_1 : decode cX12_isAt 1 = .ok (.getfield 188, 3) := by decide +kernel
theorem dX12_isAt_4 : decode cX12_isAt 4 = .ok (.aload_n 0, 1) := by decide +kernel
theorem dX12_isAt_5 : decode cX12_isAt 5 = .ok (.getfield 185, 3) := by decide +kernel
theorem dX12_isAt_8 : decode cX12_isAt 8 = .ok (.if_icmp .ge 24, 3) := by decide +kernel
theorem dX12_isAt_11 : decode cX12_isAt 11 = .ok (.aload_n 0, 1) := by decide +kernel
theorem dX12_isAt_12 : decode cX12_isAt 12 = .ok (.getfield 16, 3) := by decide +kernel
theorem dX12_isAt_15 : decode cX12_isAt 15 = .ok (.aload_n 0, 1) := by decide +kernel
theorem dX12_isAt_16 : decode cX12_isAt 16 = .ok (.getfield 188, 3) := by decide +kernel
theorem dX12_isAt_19 : decode cX12_isAt 19 = .ok (.iaload, 1) := by decide +kernel
theorem dX12_isAt_20 : decode cX12_isAt 20 = .ok (.iload_n 1, 1) := by decide +kernel
theorem dX12_isAt_21 : decode cX12_isAt 21 = .ok (.iload_n 2, 1) := by decide +kernel
theorem dX12_isAt_22 : decode cX12_isAt 22 = .ok (.invokestatic 98, 3) := by decide +kernel
theorem dX12_isAt_25 : decode cX12_isAt 25 = .ok (.ifCond .eq 7, 3) := by decide +kernel
theorem dX12_isAt_28 : decode cX12_isAt 28 = .ok (.iconst 1, 1) := by decide +kernel
theorem dX12_isAt_29 : decode cX12_isAt 29 = .ok (.goto 4, 3) := by decide +kernel
theorem dX12_isAt_32 : decode cX12_isAt 32 = .ok (.iconst 0, 1) := by decide +kernel
theorem dX12_isAt_33 : decode cX12_isAt 33 = .ok (.ireturn, 1) := by decide +kernel
theorem dX12_takes_0 : decode cX12_takes 0 = .ok (.aload_n 0, 1) := by decide +kernel
theorem dX12_takes_1 : decode cX12_takes 1 = .ok (.iload_n 1, 1) := by decide +kernel
theorem dX12_takes_2 : decode cX12_takes 2 = .ok (.iload_n 1, 1) := by decide +kernel
theorem dX12_takes_3 : decode cX12_takes 3 = .ok (.invokevirtual 191, 3) := by decide +kernel
theorem dX12_takes_6 : decode cX12_takes 6 = .ok (.istore_n 2, 1) := by decide +kernel
theorem dX12_takes_7 : decode cX12_takes 7 = .ok (.aload_n 0, 1) := by decide +kernel
theorem dX12_takes_8 : decode cX12_takes 8 = .ok (.dup, 1) := by decide +kernel
theorem dX12_takes_9 : decode cX12_takes 9 = .ok (.getfield 188, 3) := by decide +kernel
theorem dX12_takes_12 : decode cX12_takes 12 = .ok (.iload_n 2, 1) := by decide +kernel
theorem dX12_takes_13 : decode cX12_takes 13 = .ok (.ifCond .eq 7, 3) := by decide +kernel
theorem dX12_takes_16 : decode cX12_takes 16 = .ok (.iconst 1, 1) := by decide +kernel
theorem dX12_takes_17 : decode cX12_takes 17 = .ok (.goto 4, 3) := by decide +kernel
theorem dX12_takes_20 : decode cX12_takes 20 = .ok (.iconst 0, 1) := by decide +kernel
theorem dX12_takes_21 : decode cX12_takes 21 = .ok (.iadd, 1) := by decide +kernel
theorem dX12_takes_22 : decode cX12_takes 22 = .ok (.putfield 188, 3) := by decide +kernel
theorem dX12_takes_25 : decode cX12_takes 25 = .ok (.aload_n 0, 1) := by decide +kernel
theorem dX12_takes_26 : decode cX12_takes 26 = .ok (.iload_n 2, 1) := by decide +kernel
theorem dX12_takes_27 : decode cX12_takes 27 = .ok (.ifCond .eq 10, 3) := by decide +kernel
theorem dX12_takes_30 : decode cX12_takes 30 = .ok (.aload_n 0, 1) := by decide +kernel
theorem dX12_takes_31 : decode cX12_takes 31 = .ok (.getfield 195, 3) := by decide +kernel
theorem dX12_takes_34 : decode cX12_takes 34 = .ok (.goto 4, 3) := by decide +kernel
theorem dX12_takes_37 : decode cX12_takes 37 = .ok (.iconst 1, 1) := by decide +kernel
theorem dX12_takes_38 : decode cX12_takes 38 = .ok (.putfield 195, 3) := by decide +kernel
theorem dX12_takes_41 : decode cX12_takes 41 = .ok (.iload_n 2, 1) := by decide +kernel
theorem dX12_takes_42 : decode cX12_takes 42 = .ok (.ireturn, 1) := by decide +kernel
theorem dX12_readsSide_0 : decode cX12_readsSide 0 = .ok (.aload_n 0, 1) := by decide +kernel
theorem dX12_readsSide_1 : decode cX12_readsSide 1 = .ok (.getfield 63, 3) := by decide +kernel
theorem dX12_readsSide_4 : decode cX12_readsSide 4 = .ok (.iconst 0, 1) := by decide +kernel
theorem dX12_readsSide_5 : decode cX12_readsSide 5 = .ok (.iaload, 1) := by decide +kernel
theorem dX12_readsSide_6 : decode cX12_readsSide 6 = .ok (.bipush 16, 2) := by decide +kernel
theorem dX12_readsSide_8 : decode cX12_readsSide 8 = .ok (.if_icmp .ne 10, 3) := by decide +kernel
theorem dX12_readsSide_11 : decode cX12_readsSide 11 = .ok (.aload_n 0, 1) := by decide +kernel
theorem dX12_readsSide_12 : decode cX12_readsSide 12 = .ok (.iconst 3, 1) := by decide +kernel
theorem dX12_readsSide_13 : decode cX12_readsSide 13 = .ok (.putfield 195, 3) := by decide +kernel
theorem dX12_readsSide_16 : decode cX12_readsSide 16 = .ok (.iconst 0, 1) := by decide +kernel
theorem dX12_readsSide_17 : decode cX12_readsSide 17 = .ok (.ireturn, 1) := by decide +kernel
theorem dX12_readsSide_18 : decode cX12_readsSide 18 = .ok (.aload_n 0, 1) := by decide +kernel
theorem dX12_readsSide_19 : decode cX12_readsSide 19 = .ok (.getfield 63, 3) := by decide +kernel
theorem dX12_readsSide_22 : decode cX12_readsSide 22 = .ok (.iconst 0, 1) := by decide +kernel
theorem dX12_readsSide_23 : decode cX12_readsSide 23 = .ok (.iaload, 1) := by decide +kernel
theorem dX12_readsSide_24 : decode cX12_readsSide 24 = .ok (.istore_n 2, 1) := by decide +kernel
theorem dX12_readsSide_25 : decode cX12_readsSide 25 = .ok (.aload_n 0, 1) := by decide +kernel
theorem dX12_readsSide_26 : decode cX12_readsSide 26 = .ok (.getfield 63, 3) := by decide +kernel
theorem dX12_readsSide_29 : decode cX12_readsSide 29 = .ok (.iconst 1, 1) := by decide +kernel
theorem dX12_readsSide_30 : decode cX12_readsSide 30 = .ok (.iload_n 2, 1) := by decide +kernel
theorem dX12_readsSide_31 : decode cX12_readsSide 31 = .ok (.iadd, 1) := by decide +kernel
theorem dX12_readsSide_32 : decode cX12_readsSide 32 = .ok (.iload_n 1, 1) := by decide +kernel
theorem dX12_readsSide_33 : decode cX12_readsSide 33 = .ok (.iastore, 1) := by decide +kernel
theorem dX12_readsSide_34 : decode cX12_readsSide 34 = .ok (.aload_n 0, 1) := by decide +kernel
theorem dX12_readsSide_35 : decode cX12_readsSide 35 = .ok (.getfield 63, 3) := by decide +kernel
theorem dX12_readsSide_38 : decode cX12_readsSide 38 = .ok (.bipush 17, 2) := by decide +kernel
theorem dX12_readsSide_40 : decode cX12_readsSide 40 = .ok (.iload_n 2, 1) := by decide +kernel
theorem dX12_readsSide_41 : decode cX12_readsSide 41 = .ok (.iadd, 1) := by decide +kernel
theorem dX12_readsSide_42 : decode cX12_readsSide 42 = .ok (.iconst 0, 1) := by decide +kernel
theorem dX12_readsSide_43 : decode cX12_readsSide 43 = .ok (.iastore, 1) := by decide +kernel
theorem dX12_readsSide_44 : decode cX12_readsSide 44 = .ok (.aload_n 0, 1) := by decide +kernel
theorem dX12_readsSide_45 : decode cX12_readsSide 45 = .ok (.getfield 63, 3) := by decide +kernel
theorem dX12_readsSide_48 : decode cX12_readsSide 48 = .ok (.iconst 0, 1) := by decide +kernel
theorem dX12_readsSide_49 : decode cX12_readsSide 49 = .ok (.dup2, 1) := by decide +kernel
theorem dX12_readsSide_50 : decode cX12_readsSide 50 = .ok (.iaload, 1) := by decide +kernel
theorem dX12_readsSide_51 : decode cX12_readsSide 51 = .ok (.iconst 1, 1) := by decide +kernel
theorem dX12_readsSide_52 : decode cX12_readsSide 52 = .ok (.iadd, 1) := by decide +kernel
theorem dX12_readsSide_53 : decode cX12_readsSide 53 = .ok (.iastore, 1) := by decide +kernel
theorem dX12_readsSide_54 : decode cX12_readsSide 54 = .ok (.aload_n 0, 1) := by decide +kernel
theorem dX12_readsSide_55 : decode cX12_readsSide 55 = .ok (.bipush 97, 2) := by decide +kernel
theorem dX12_readsSide_57 : decode cX12_readsSide 57 = .ok (.bipush 101, 2) := by decide +kernel
theorem dX12_readsSide_59 : decode cX12_readsSide 59 = .ok (.invokevirtual 191, 3) := by decide +kernel
theorem dX12_readsSide_62 : decode cX12_readsSide 62 = .ok (.ifCond .ne 14, 3) := by decide +kernel
theorem dX12_readsSide_65 : decode cX12_readsSide 65 = .ok (.aload_n 0, 1) := by decide +kernel
theorem dX12_readsSide_66 : decode cX12_readsSide 66 = .ok (.bipush 65, 2) := by decide +kernel
theorem dX12_readsSide_68 : decode cX12_readsSide 68 = .ok (.bipush 70, 2) := by decide +kernel
theorem dX12_readsSide_70 : decode cX12_readsSide 70 = .ok (.invokevirtual 191, 3) := by decide +kernel
theorem dX12_readsSide_73 : decode cX12_readsSide 73 = .ok (.ifCond .eq 111, 3) := by decide +kernel
theorem dX12_readsSide_76 : decode cX12_readsSide 76 = .ok (.aload_n 0, 1) := by decide +kernel
theorem dX12_readsSide_77 : decode cX12_readsSide 77 = .ok (.getfield 63, 3) := by decide +kernel
theorem dX12_readsSide_80 : decode cX12_readsSide 80 = .ok (.bipush 17, 2) := by decide +kernel
theorem dX12_readsSide_82 : decode cX12_readsSide 82 = .ok (.iload_n 2, 1) := by decide +kernel
theorem dX12_readsSide_83 : decode cX12_readsSide 83 = .ok (.iadd, 1) := by decide +kernel
theorem dX12_readsSide_84 : decode cX12_readsSide 84 = .ok (.iaload, 1) := by decide +kernel
theorem dX12_readsSide_85 : decode cX12_readsSide 85 = .ok (.iconst 5, 1) := by decide +kernel
theorem dX12_readsSide_86 : decode cX12_readsSide 86 = .ok (.if_icmp .ne 10, 3) := by decide +kernel
theorem dX12_readsSide_89 : decode cX12_readsSide 89 = .ok (.aload_n 0, 1) := by decide +kernel
theorem dX12_readsSide_90 : decode cX12_readsSide 90 = .ok (.iconst 4, 1) := by decide +kernel
theorem dX12_readsSide_91 : decode cX12_readsSide 91 = .ok (.putfield 195, 3) := by decide +kernel
theorem dX12_readsSide_94 : decode cX12_readsSide 94 = .ok (.iconst 0, 1) := by decide +kernel
theorem dX12_readsSide_95 : decode cX12_readsSide 95 = .ok (.ireturn, 1) := by decide +kernel
theorem dX12_readsSide_96 : decode cX12_readsSide 96 = .ok (.aload_n 0, 1) := by decide +kernel
theorem dX12_readsSide_97 : decode cX12_readsSide 97 = .ok (.getfield 63, 3) := by decide +kernel
theorem dX12_readsSide_100 : decode cX12_readsSide 100 = .ok (.bipush 33, 2) := by decide +kernel
theorem dX12_readsSide_102 : decode cX12_readsSide 102 = .ok (.iconst 5, 1) := by decide +kernel
theorem dX12_readsSide_103 : decode cX12_readsSide 103 = .ok (.iload_n 2, 1) := by decide +kernel
theorem dX12_readsSide_104 : decode cX12_readsSide 104 = .ok (.imul, 1) := by decide +kernel
theorem dX12_readsSide_105 : decode cX12_readsSide 105 = .ok (.iadd, 1) := by decide +kernel
theorem dX12_readsSide_106 : decode cX12_readsSide 106 = .ok (.aload_n 0, 1) := by decide +kernel
theorem dX12_readsSide_107 : decode cX12_readsSide 107 = .ok (.getfield 63, 3) := by decide +kernel
theorem dX12_readsSide_110 : decode cX12_readsSide 110 = .ok (.bipush 17, 2) := by decide +kernel
theorem dX12_readsSide_112 : decode cX12_readsSide 112 = .ok (.iload_n 2, 1) := by decide +kernel
theorem dX12_readsSide_113 : decode cX12_readsSide 113 = .ok (.iadd, 1) := by decide +kernel
theorem dX12_readsSide_114 : decode cX12_readsSide 114 = .ok (.iaload, 1) := by decide +kernel
theorem dX12_readsSide_115 : decode cX12_readsSide 115 = .ok (.iadd, 1) := by decide +kernel
theorem dX12_readsSide_116 : decode cX12_readsSide 116 = .ok (.aload_n 0, 1) := by decide +kernel
theorem dX12_readsSide_117 : decode cX12_readsSide 117 = .ok (.bipush 97, 2) := by decide +kernel
theorem dX12_readsSide_119 : decode cX12_readsSide 119 = .ok (.bipush 101, 2) := by decide +kernel
theorem dX12_readsSide_121 : decode cX12_readsSide 121 = .ok (.invokevirtual 191, 3) := by decide +kernel
theorem dX12_readsSide_124 : decode cX12_readsSide 124 = .ok (.ifCond .eq 18, 3) := by decide +kernel
theorem dX12_readsSide_127 : decode cX12_readsSide 127 = .ok (.aload_n 0, 1) := by decide +kernel
theorem dX12_readsSide_128 : decode cX12_readsSide 128 = .ok (.getfield 16, 3) := by decide +kernel
theorem dX12_readsSide_131 : decode cX12_readsSide 131 = .ok (.aload_n 0, 1) := by decide +kernel
theorem dX12_readsSide_132 : decode cX12_readsSide 132 = .ok (.getfield 188, 3) := by decide +kernel
theorem dX12_readsSide_135 : decode cX12_readsSide 135 = .ok (.iaload, 1) := by decide +kernel
theorem dX12_readsSide_136 : decode cX12_readsSide 136 = .ok (.bipush 97, 2) := by decide +kernel
theorem dX12_readsSide_138 : decode cX12_readsSide 138 = .ok (.isub, 1) := by decide +kernel
theorem dX12_readsSide_139 : decode cX12_readsSide 139 = .ok (.goto 18, 3) := by decide +kernel
theorem dX12_readsSide_142 : decode cX12_readsSide 142 = .ok (.bipush 10, 2) := by decide +kernel
theorem dX12_readsSide_144 : decode cX12_readsSide 144 = .ok (.aload_n 0, 1) := by decide +kernel
theorem dX12_readsSide_145 : decode cX12_readsSide 145 = .ok (.getfield 16, 3) := by decide +kernel
theorem dX12_readsSide_148 : decode cX12_readsSide 148 = .ok (.aload_n 0, 1) := by decide +kernel
theorem dX12_readsSide_149 : decode cX12_readsSide 149 = .ok (.getfield 188, 3) := by decide +kernel
theorem dX12_readsSide_152 : decode cX12_readsSide 152 = .ok (.iaload, 1) := by decide +kernel
theorem dX12_readsSide_153 : decode cX12_readsSide 153 = .ok (.iadd, 1) := by decide +kernel
theorem dX12_readsSide_154 : decode cX12_readsSide 154 = .ok (.bipush 65, 2) := by decide +kernel
theorem dX12_readsSide_156 : decode cX12_readsSide 156 = .ok (.isub, 1) := by decide +kernel
theorem dX12_readsSide_157 : decode cX12_readsSide 157 = .ok (.iastore, 1) := by decide +kernel
theorem dX12_readsSide_158 : decode cX12_readsSide 158 = .ok (.aload_n 0, 1) := by decide +kernel
theorem dX12_readsSide_159 : decode cX12_readsSide 159 = .ok (.getfield 63, 3) := by decide +kernel
theorem dX12_readsSide_162 : decode cX12_readsSide 162 = .ok (.bipush 17, 2) := by decide +kernel
theorem dX12_readsSide_164 : decode cX12_readsSide 164 = .ok (.iload_n 2, 1) := by decide +kernel
theorem dX12_readsSide_165 : decode cX12_readsSide 165 = .ok (.iadd, 1) := by decide +kernel
theorem dX12_readsSide_166 : decode cX12_readsSide 166 = .ok (.dup2, 1) := by decide +kernel
theorem dX12_readsSide_167 : decode cX12_readsSide 167 = .ok (.iaload, 1) := by decide +kernel
theorem dX12_readsSide_168 : decode cX12_readsSide 168 = .ok (.iconst 1, 1) := by decide +kernel
theorem dX12_readsSide_169 : decode cX12_readsSide 169 = .ok (.iadd, 1) := by decide +kernel
theorem dX12_readsSide_170 : decode cX12_readsSide 170 = .ok (.iastore, 1) := by decide +kernel
theorem dX12_readsSide_171 : decode cX12_readsSide 171 = .ok (.aload_n 0, 1) := by decide +kernel
theorem dX12_readsSide_172 : decode cX12_readsSide 172 = .ok (.dup, 1) := by decide +kernel
theorem dX12_readsSide_173 : decode cX12_readsSide 173 = .ok (.getfield 188, 3) := by decide +kernel
theorem dX12_readsSide_176 : decode cX12_readsSide 176 = .ok (.iconst 1, 1) := by decide +kernel
theorem dX12_readsSide_177 : decode cX12_readsSide 177 = .ok (.iadd, 1) := by decide +kernel
theorem dX12_readsSide_178 : decode cX12_readsSide 178 = .ok (.putfield 188, 3) := by decide +kernel
theorem dX12_readsSide_181 : decode cX12_readsSide 181 = .ok (.goto (-127), 3) := by decide +kernel
theorem dX12_readsSide_184 : decode cX12_readsSide 184 = .ok (.iconst 1, 1) := by decide +kernel
theorem dX12_readsSide_185 : decode cX12_readsSide 185 = .ok (.ireturn, 1) := by decide +kernel
theorem dX12_readsRule_0 : decode cX12_readsRule 0 = .ok (.aload_n 0, 1) := by decide +kernel
theorem dX12_readsRule_1 : decode cX12_readsRule 1 = .ok (.bipush 65, 2) := by decide +kernel
theorem dX12_readsRule_3 : decode cX12_readsRule 3 = .ok (.bipush 70, 2) := by decide +kernel
theorem dX12_readsRule_5 : decode cX12_readsRule 5 = .ok (.invokevirtual 191, 3) := by decide +kernel
theorem dX12_readsRule_8 : decode cX12_readsRule 8 = .ok (.ifCond .ne 10, 3) := by decide +kernel
theorem dX12_readsRule_11 : decode cX12_readsRule 11 = .ok (.aload_n 0, 1) := by decide +kernel
theorem dX12_readsRule_12 : decode cX12_readsRule 12 = .ok (.iconst 1, 1) := by decide +kernel
theorem dX12_readsRule_13 : decode cX12_readsRule 13 = .ok (.putfield 195, 3) := by decide +kernel
theorem dX12_readsRule_16 : decode cX12_readsRule 16 = .ok (.iconst 0, 1) := by decide +kernel
theorem dX12_readsRule_17 : decode cX12_readsRule 17 = .ok (.ireturn, 1) := by decide +kernel
theorem dX12_readsRule_18 : decode cX12_readsRule 18 = .ok (.aload_n 0, 1) := by decide +kernel
theorem dX12_readsRule_19 : decode cX12_readsRule 19 = .ok (.getfield 16, 3) := by decide +kernel
theorem dX12_readsRule_22 : decode cX12_readsRule 22 = .ok (.aload_n 0, 1) := by decide +kernel
theorem dX12_readsRule_23 : decode cX12_readsRule 23 = .ok (.getfield 188, 3) := by decide +kernel
theorem dX12_readsRule_26 : decode cX12_readsRule 26 = .ok (.iaload, 1) := by decide +kernel
theorem dX12_readsRule_27 : decode cX12_readsRule 27 = .ok (.bipush 65, 2) := by decide +kernel
theorem dX12_readsRule_29 : decode cX12_readsRule 29 = .ok (.isub, 1) := by decide +kernel
theorem dX12_readsRule_30 : decode cX12_readsRule 30 = .ok (.istore_n 1, 1) := by decide +kernel
theorem dX12_readsRule_31 : decode cX12_readsRule 31 = .ok (.iconst 0, 1) := by decide +kernel
theorem dX12_readsRule_32 : decode cX12_readsRule 32 = .ok (.istore_n 2, 1) := by decide +kernel
theorem dX12_readsRule_33 : decode cX12_readsRule 33 = .ok (.iload_n 2, 1) := by decide +kernel
theorem dX12_readsRule_34 : decode cX12_readsRule 34 = .ok (.aload_n 0, 1) := by decide +kernel
theorem dX12_readsRule_35 : decode cX12_readsRule 35 = .ok (.getfield 63, 3) := by decide +kernel
theorem dX12_readsRule_38 : decode cX12_readsRule 38 = .ok (.iconst 0, 1) := by decide +kernel
theorem dX12_readsRule_39 : decode cX12_readsRule 39 = .ok (.iaload, 1) := by decide +kernel
theorem dX12_readsRule_40 : decode cX12_readsRule 40 = .ok (.if_icmp .ge 33, 3) := by decide +kernel
theorem dX12_readsRule_43 : decode cX12_readsRule 43 = .ok (.aload_n 0, 1) := by decide +kernel
theorem dX12_readsRule_44 : decode cX12_readsRule 44 = .ok (.aload_n 0, 1) := by decide +kernel
theorem dX12_readsRule_45 : decode cX12_readsRule 45 = .ok (.getfield 63, 3) := by decide +kernel
theorem dX12_readsRule_48 : decode cX12_readsRule 48 = .ok (.iconst 1, 1) := by decide +kernel
theorem dX12_readsRule_49 : decode cX12_readsRule 49 = .ok (.iload_n 2, 1) := by decide +kernel
theorem dX12_readsRule_50 : decode cX12_readsRule 50 = .ok (.iadd, 1) := by decide +kernel
theorem dX12_readsRule_51 : decode cX12_readsRule 51 = .ok (.iaload, 1) := by decide +kernel
theorem dX12_readsRule_52 : decode cX12_readsRule 52 = .ok (.iload_n 1, 1) := by decide +kernel
theorem dX12_readsRule_53 : decode cX12_readsRule 53 = .ok (.if_icmp .ne 7, 3) := by decide +kernel
theorem dX12_readsRule_56 : decode cX12_readsRule 56 = .ok (.iconst 2, 1) := by decide +kernel
theorem dX12_readsRule_57 : decode cX12_readsRule 57 = .ok (.goto 7, 3) := by decide +kernel
theorem dX12_readsRule_60 : decode cX12_readsRule 60 = .ok (.aload_n 0, 1) := by decide +kernel
theorem dX12_readsRule_61 : decode cX12_readsRule 61 = .ok (.getfield 195, 3) := by decide +kernel
theorem dX12_readsRule_64 : decode cX12_readsRule 64 = .ok (.putfield 195, 3) := by decide +kernel
theorem dX12_readsRule_67 : decode cX12_readsRule 67 = .ok (.iinc 2 1, 3) := by decide +kernel
theorem dX12_readsRule_70 : decode cX12_readsRule 70 = .ok (.goto (-37), 3) := by decide +kernel
theorem dX12_readsRule_73 : decode cX12_readsRule 73 = .ok (.aload_n 0, 1) := by decide +kernel
theorem dX12_readsRule_74 : decode cX12_readsRule 74 = .ok (.getfield 195, 3) := by decide +kernel
theorem dX12_readsRule_77 : decode cX12_readsRule 77 = .ok (.ifCond .le 5, 3) := by decide +kernel
theorem dX12_readsRule_80 : decode cX12_readsRule 80 = .ok (.iconst 0, 1) := by decide +kernel
theorem dX12_readsRule_81 : decode cX12_readsRule 81 = .ok (.ireturn, 1) := by decide +kernel
theorem dX12_readsRule_82 : decode cX12_readsRule 82 = .ok (.aload_n 0, 1) := by decide +kernel
theorem dX12_readsRule_83 : decode cX12_readsRule 83 = .ok (.dup, 1) := by decide +kernel
theorem dX12_readsRule_84 : decode cX12_readsRule 84 = .ok (.getfield 188, 3) := by decide +kernel
theorem dX12_readsRule_87 : decode cX12_readsRule 87 = .ok (.iconst 1, 1) := by decide +kernel
theorem dX12_readsRule_88 : decode cX12_readsRule 88 = .ok (.iadd, 1) := by decide +kernel
theorem dX12_readsRule_89 : decode cX12_readsRule 89 = .ok (.putfield 188, 3) := by decide +kernel
theorem dX12_readsRule_92 : decode cX12_readsRule 92 = .ok (.aload_n 0, 1) := by decide +kernel
theorem dX12_readsRule_93 : decode cX12_readsRule 93 = .ok (.bipush 61, 2) := by decide +kernel
theorem dX12_readsRule_95 : decode cX12_readsRule 95 = .ok (.invokevirtual 198, 3) := by decide +kernel
theorem dX12_readsRule_98 : decode cX12_readsRule 98 = .ok (.ifCond .eq 11, 3) := by decide +kernel
theorem dX12_readsRule_101 : decode cX12_readsRule 101 = .ok (.aload_n 0, 1) := by decide +kernel
theorem dX12_readsRule_102 : decode cX12_readsRule 102 = .ok (.iload_n 1, 1) := by decide +kernel
theorem dX12_readsRule_103 : decode cX12_readsRule 103 = .ok (.invokevirtual 201, 3) := by decide +kernel
theorem dX12_readsRule_106 : decode cX12_readsRule 106 = .ok (.ifCond .ne 5, 3) := by decide +kernel
theorem dX12_readsRule_109 : decode cX12_readsRule 109 = .ok (.iconst 0, 1) := by decide +kernel
theorem dX12_readsRule_110 : decode cX12_readsRule 110 = .ok (.ireturn, 1) := by decide +kernel
theorem dX12_readsRule_111 : decode cX12_readsRule 111 = .ok (.aload_n 0, 1) := by decide +kernel
theorem dX12_readsRule_112 : decode cX12_readsRule 112 = .ok (.bipush 124, 2) := by decide +kernel
theorem dX12_readsRule_114 : decode cX12_readsRule 114 = .ok (.bipush 124, 2) := by decide +kernel
theorem dX12_readsRule_116 : decode cX12_readsRule 116 = .ok (.invokevirtual 191, 3) := by decide +kernel
theorem dX12_readsRule_119 : decode cX12_readsRule 119 = .ok (.ifCond .eq 23, 3) := by decide +kernel
theorem dX12_readsRule_122 : decode cX12_readsRule 122 = .ok (.aload_n 0, 1) := by decide +kernel
theorem dX12_readsRule_123 : decode cX12_readsRule 123 = .ok (.dup, 1) := by decide +kernel
theorem dX12_readsRule_124 : decode cX12_readsRule 124 = .ok (.getfield 188, 3) := by decide +kernel
theorem dX12_readsRule_127 : decode cX12_readsRule 127 = .ok (.iconst 1, 1) := by decide +kernel
theorem dX12_readsRule_128 : decode cX12_readsRule 128 = .ok (.iadd, 1) := by decide +kernel
theorem dX12_readsRule_129 : decode cX12_readsRule 129 = .ok (.putfield 188, 3) := by decide +kernel
theorem dX12_readsRule_132 : decode cX12_readsRule 132 = .ok (.aload_n 0, 1) := by decide +kernel
theorem dX12_readsRule_133 : decode cX12_readsRule 133 = .ok (.iload_n 1, 1) := by decide +kernel
theorem dX12_readsRule_134 : decode cX12_readsRule 134 = .ok (.invokevirtual 201, 3) := by decide +kernel
theorem dX12_readsRule_137 : decode cX12_readsRule 137 = .ok (.ifCond .ne (-26), 3) := by decide +kernel
theorem dX12_readsRule_140 : decode cX12_readsRule 140 = .ok (.iconst 0, 1) := by decide +kernel
theorem dX12_readsRule_141 : decode cX12_readsRule 141 = .ok (.ireturn, 1) := by decide +kernel
theorem dX12_readsRule_142 : decode cX12_readsRule 142 = .ok (.aload_n 0, 1) := by decide +kernel
theorem dX12_readsRule_143 : decode cX12_readsRule 143 = .ok (.bipush 59, 2) := by decide +kernel
theorem dX12_readsRule_145 : decode cX12_readsRule 145 = .ok (.invokevirtual 198, 3) := by decide +kernel
theorem dX12_readsRule_148 : decode cX12_readsRule 148 = .ok (.ireturn, 1) := by decide +kernel
theorem dX12_finds_0 : decode cX12_finds 0 = .ok (.aload_n 0, 1) := by decide +kernel
theorem dX12_finds_1 : decode cX12_finds 1 = .ok (.iconst 0, 1) := by decide +kernel
theorem dX12_finds_2 : decode cX12_finds 2 = .ok (.putfield 188, 3) := by decide +kernel
theorem dX12_finds_5 : decode cX12_finds 5 = .ok (.iconst 1, 1) := by decide +kernel
theorem dX12_finds_6 : decode cX12_finds 6 = .ok (.istore_n 1, 1) := by decide +kernel
theorem dX12_finds_7 : decode cX12_finds 7 = .ok (.aload_n 0, 1) := by decide +kernel
theorem dX12_finds_8 : decode cX12_finds 8 = .ok (.getfield 188, 3) := by decide +kernel
theorem dX12_finds_11 : decode cX12_finds 11 = .ok (.aload_n 0, 1) := by decide +kernel
theorem dX12_finds_12 : decode cX12_finds 12 = .ok (.getfield 185, 3) := by decide +kernel
theorem dX12_finds_15 : decode cX12_finds 15 = .ok (.if_icmp .ge 148, 3) := by decide +kernel
theorem dX12_finds_18 : decode cX12_finds 18 = .ok (.iload_n 1, 1) := by decide +kernel
theorem dX12_finds_19 : decode cX12_finds 19 = .ok (.ifCond .eq 144, 3) := by decide +kernel
theorem dX12_finds_22 : decode cX12_finds 22 = .ok (.aload_n 0, 1) := by decide +kernel
theorem dX12_finds_23 : decode cX12_finds 23 = .ok (.getfield 188, 3) := by decide +kernel
theorem dX12_finds_26 : decode cX12_finds 26 = .ok (.iconst 1, 1) := by decide +kernel
theorem dX12_finds_27 : decode cX12_finds 27 = .ok (.iadd, 1) := by decide +kernel
theorem dX12_finds_28 : decode cX12_finds 28 = .ok (.aload_n 0, 1) := by decide +kernel
theorem dX12_finds_29 : decode cX12_finds 29 = .ok (.getfield 185, 3) := by decide +kernel
theorem dX12_finds_32 : decode cX12_finds 32 = .ok (.if_icmp .ge 23, 3) := by decide +kernel
theorem dX12_finds_35 : decode cX12_finds 35 = .ok (.aload_n 0, 1) := by decide +kernel
theorem dX12_finds_36 : decode cX12_finds 36 = .ok (.getfield 16, 3) := by decide +kernel
theorem dX12_finds_39 : decode cX12_finds 39 = .ok (.aload_n 0, 1) := by decide +kernel
theorem dX12_finds_40 : decode cX12_finds 40 = .ok (.getfield 188, 3) := by decide +kernel
theorem dX12_finds_43 : decode cX12_finds 43 = .ok (.iconst 1, 1) := by decide +kernel
theorem dX12_finds_44 : decode cX12_finds 44 = .ok (.iadd, 1) := by decide +kernel
theorem dX12_finds_45 : decode cX12_finds 45 = .ok (.iaload, 1) := by decide +kernel
theorem dX12_finds_46 : decode cX12_finds 46 = .ok (.bipush 61, 2) := by decide +kernel
theorem dX12_finds_48 : decode cX12_finds 48 = .ok (.if_icmp .ne 7, 3) := by decide +kernel
theorem dX12_finds_51 : decode cX12_finds 51 = .ok (.iconst 1, 1) := by decide +kernel
theorem dX12_finds_52 : decode cX12_finds 52 = .ok (.goto 4, 3) := by decide +kernel
theorem dX12_finds_55 : decode cX12_finds 55 = .ok (.iconst 0, 1) := by decide +kernel
theorem dX12_finds_56 : decode cX12_finds 56 = .ok (.istore_n 2, 1) := by decide +kernel
theorem dX12_finds_57 : decode cX12_finds 57 = .ok (.aload_n 0, 1) := by decide +kernel
theorem dX12_finds_58 : decode cX12_finds 58 = .ok (.bipush 65, 2) := by decide +kernel
theorem dX12_finds_60 : decode cX12_finds 60 = .ok (.bipush 70, 2) := by decide +kernel
theorem dX12_finds_62 : decode cX12_finds 62 = .ok (.invokevirtual 191, 3) := by decide +kernel
theorem dX12_finds_65 : decode cX12_finds 65 = .ok (.ifCond .eq 11, 3) := by decide +kernel
theorem dX12_finds_68 : decode cX12_finds 68 = .ok (.iload_n 2, 1) := by decide +kernel
theorem dX12_finds_69 : decode cX12_finds 69 = .ok (.ifCond .ne 7, 3) := by decide +kernel
theorem dX12_finds_72 : decode cX12_finds 72 = .ok (.iconst 1, 1) := by decide +kernel
theorem dX12_finds_73 : decode cX12_finds 73 = .ok (.goto 4, 3) := by decide +kernel
theorem dX12_finds_76 : decode cX12_finds 76 = .ok (.iconst 0, 1) := by decide +kernel
theorem dX12_finds_77 : decode cX12_finds 77 = .ok (.istore_n 3, 1) := by decide +kernel
theorem dX12_finds_78 : decode cX12_finds 78 = .ok (.iconst 0, 1) := by decide +kernel
theorem dX12_finds_79 : decode cX12_finds 79 = .ok (.istore 4, 2) := by decide +kernel
theorem dX12_finds_81 : decode cX12_finds 81 = .ok (.iload 4, 2) := by decide +kernel
theorem dX12_finds_83 : decode cX12_finds 83 = .ok (.aload_n 0, 1) := by decide +kernel
theorem dX12_finds_84 : decode cX12_finds 84 = .ok (.getfield 63, 3) := by decide +kernel
theorem dX12_finds_87 : decode cX12_finds 87 = .ok (.iconst 0, 1) := by decide +kernel
theorem dX12_finds_88 : decode cX12_finds 88 = .ok (.iaload, 1) := by decide +kernel
theorem dX12_finds_89 : decode cX12_finds 89 = .ok (.if_icmp .ge 43, 3) := by decide +kernel
theorem dX12_finds_92 : decode cX12_finds 92 = .ok (.iload_n 3, 1) := by decide +kernel
theorem dX12_finds_93 : decode cX12_finds 93 = .ok (.ifCond .eq 31, 3) := by decide +kernel
theorem dX12_finds_96 : decode cX12_finds 96 = .ok (.aload_n 0, 1) := by decide +kernel
theorem dX12_finds_97 : decode cX12_finds 97 = .ok (.getfield 63, 3) := by decide +kernel
theorem dX12_finds_100 : decode cX12_finds 100 = .ok (.iconst 1, 1) := by decide +kernel
theorem dX12_finds_101 : decode cX12_finds 101 = .ok (.iload 4, 2) := by decide +kernel
theorem dX12_finds_103 : decode cX12_finds 103 = .ok (.iadd, 1) := by decide +kernel
theorem dX12_finds_104 : decode cX12_finds 104 = .ok (.iaload, 1) := by decide +kernel
theorem dX12_finds_105 : decode cX12_finds 105 = .ok (.aload_n 0, 1) := by decide +kernel
theorem dX12_finds_106 : decode cX12_finds 106 = .ok (.getfield 16, 3) := by decide +kernel
theorem dX12_finds_109 : decode cX12_finds 109 = .ok (.aload_n 0, 1) := by decide +kernel
theorem dX12_finds_110 : decode cX12_finds 110 = .ok (.getfield 188, 3) := by decide +kernel
theorem dX12_finds_113 : decode cX12_finds 113 = .ok (.iaload, 1) := by decide +kernel
theorem dX12_finds_114 : decode cX12_finds 114 = .ok (.bipush 65, 2) := by decide +kernel
theorem dX12_finds_116 : decode cX12_finds 116 = .ok (.isub, 1) := by decide +kernel
theorem dX12_finds_117 : decode cX12_finds 117 = .ok (.if_icmp .eq 7, 3) := by decide +kernel
theorem dX12_finds_120 : decode cX12_finds 120 = .ok (.iconst 1, 1) := by decide +kernel
theorem dX12_finds_121 : decode cX12_finds 121 = .ok (.goto 4, 3) := by decide +kernel
theorem dX12_finds_124 : decode cX12_finds 124 = .ok (.iconst 0, 1) := by decide +kernel
theorem dX12_finds_125 : decode cX12_finds 125 = .ok (.istore_n 3, 1) := by decide +kernel
theorem dX12_finds_126 : decode cX12_finds 126 = .ok (.iinc 4 1, 3) := by decide +kernel
theorem dX12_finds_129 : decode cX12_finds 129 = .ok (.goto (-48), 3) := by decide +kernel
theorem dX12_finds_132 : decode cX12_finds 132 = .ok (.iload_n 3, 1) := by decide +kernel
theorem dX12_finds_133 : decode cX12_finds 133 = .ok (.ifCond .ne 7, 3) := by decide +kernel
theorem dX12_finds_136 : decode cX12_finds 136 = .ok (.iconst 1, 1) := by decide +kernel
theorem dX12_finds_137 : decode cX12_finds 137 = .ok (.goto 4, 3) := by decide +kernel
theorem dX12_finds_140 : decode cX12_finds 140 = .ok (.iconst 0, 1) := by decide +kernel
theorem dX12_finds_141 : decode cX12_finds 141 = .ok (.istore_n 1, 1) := by decide +kernel
theorem dX12_finds_142 : decode cX12_finds 142 = .ok (.aload_n 0, 1) := by decide +kernel
theorem dX12_finds_143 : decode cX12_finds 143 = .ok (.dup, 1) := by decide +kernel
theorem dX12_finds_144 : decode cX12_finds 144 = .ok (.getfield 188, 3) := by decide +kernel
theorem dX12_finds_147 : decode cX12_finds 147 = .ok (.iload_n 1, 1) := by decide +kernel
theorem dX12_finds_148 : decode cX12_finds 148 = .ok (.ifCond .eq 7, 3) := by decide +kernel
theorem dX12_finds_151 : decode cX12_finds 151 = .ok (.iconst 1, 1) := by decide +kernel
theorem dX12_finds_152 : decode cX12_finds 152 = .ok (.goto 4, 3) := by decide +kernel
theorem dX12_finds_155 : decode cX12_finds 155 = .ok (.iconst 0, 1) := by decide +kernel
theorem dX12_finds_156 : decode cX12_finds 156 = .ok (.iadd, 1) := by decide +kernel
theorem dX12_finds_157 : decode cX12_finds 157 = .ok (.putfield 188, 3) := by decide +kernel
theorem dX12_finds_160 : decode cX12_finds 160 = .ok (.goto (-153), 3) := by decide +kernel
theorem dX12_finds_163 : decode cX12_finds 163 = .ok (.aload_n 0, 1) := by decide +kernel
theorem dX12_finds_164 : decode cX12_finds 164 = .ok (.iload_n 1, 1) := by decide +kernel
theorem dX12_finds_165 : decode cX12_finds 165 = .ok (.ifCond .eq 7, 3) := by decide +kernel
theorem dX12_finds_168 : decode cX12_finds 168 = .ok (.iconst 0, 1) := by decide +kernel
theorem dX12_finds_169 : decode cX12_finds 169 = .ok (.goto 4, 3) := by decide +kernel
theorem dX12_finds_172 : decode cX12_finds 172 = .ok (.iconst 5, 1) := by decide +kernel
theorem dX12_finds_173 : decode cX12_finds 173 = .ok (.putfield 195, 3) := by decide +kernel
theorem dX12_finds_176 : decode cX12_finds 176 = .ok (.return_, 1) := by decide +kernel
theorem dX12_load_0 : decode cX12_load 0 = .ok (.aload_n 0, 1) := by decide +kernel
theorem dX12_load_1 : decode cX12_load 1 = .ok (.iconst 0, 1) := by decide +kernel
theorem dX12_load_2 : decode cX12_load 2 = .ok (.putfield 188, 3) := by decide +kernel
theorem dX12_load_5 : decode cX12_load 5 = .ok (.aload_n 0, 1) := by decide +kernel
theorem dX12_load_6 : decode cX12_load 6 = .ok (.iconst 0, 1) := by decide +kernel
theorem dX12_load_7 : decode cX12_load 7 = .ok (.putfield 195, 3) := by decide +kernel
theorem dX12_load_10 : decode cX12_load 10 = .ok (.iconst 0, 1) := by decide +kernel
theorem dX12_load_11 : decode cX12_load 11 = .ok (.istore_n 1, 1) := by decide +kernel
theorem dX12_load_12 : decode cX12_load 12 = .ok (.iload_n 1, 1) := by decide +kernel
theorem dX12_load_13 : decode cX12_load 13 = .ok (.bipush 113, 2) := by decide +kernel
theorem dX12_load_15 : decode cX12_load 15 = .ok (.if_icmp .ge 16, 3) := by decide +kernel
theorem dX12_load_18 : decode cX12_load 18 = .ok (.aload_n 0, 1) := by decide +kernel
theorem dX12_load_19 : decode cX12_load 19 = .ok (.getfield 63, 3) := by decide +kernel
theorem dX12_load_22 : decode cX12_load 22 = .ok (.iload_n 1, 1) := by decide +kernel
theorem dX12_load_23 : decode cX12_load 23 = .ok (.iconst 0, 1) := by decide +kernel
theorem dX12_load_24 : decode cX12_load 24 = .ok (.iastore, 1) := by decide +kernel
theorem dX12_load_25 : decode cX12_load 25 = .ok (.iinc 1 1, 3) := by decide +kernel
theorem dX12_load_28 : decode cX12_load 28 = .ok (.goto (-16), 3) := by decide +kernel
theorem dX12_load_31 : decode cX12_load 31 = .ok (.aload_n 0, 1) := by decide +kernel
theorem dX12_load_32 : decode cX12_load 32 = .ok (.invokevirtual 204, 3) := by decide +kernel
theorem dX12_load_35 : decode cX12_load 35 = .ok (.istore_n 1, 1) := by decide +kernel
theorem dX12_load_36 : decode cX12_load 36 = .ok (.iload_n 1, 1) := by decide +kernel
theorem dX12_load_37 : decode cX12_load 37 = .ok (.ifCond .eq 22, 3) := by decide +kernel
theorem dX12_load_40 : decode cX12_load 40 = .ok (.aload_n 0, 1) := by decide +kernel
theorem dX12_load_41 : decode cX12_load 41 = .ok (.getfield 188, 3) := by decide +kernel
theorem dX12_load_44 : decode cX12_load 44 = .ok (.aload_n 0, 1) := by decide +kernel
theorem dX12_load_45 : decode cX12_load 45 = .ok (.getfield 185, 3) := by decide +kernel
theorem dX12_load_48 : decode cX12_load 48 = .ok (.if_icmp .ge 11, 3) := by decide +kernel
theorem dX12_load_51 : decode cX12_load 51 = .ok (.aload_n 0, 1) := by decide +kernel
theorem dX12_load_52 : decode cX12_load 52 = .ok (.invokevirtual 204, 3) := by decide +kernel
theorem dX12_load_55 : decode cX12_load 55 = .ok (.istore_n 1, 1) := by decide +kernel
theorem dX12_load_56 : decode cX12_load 56 = .ok (.goto (-20), 3) := by decide +kernel
theorem dX12_load_59 : decode cX12_load 59 = .ok (.iload_n 1, 1) := by decide +kernel
theorem dX12_load_60 : decode cX12_load 60 = .ok (.ifCond .eq 7, 3) := by decide +kernel
theorem dX12_load_63 : decode cX12_load 63 = .ok (.aload_n 0, 1) := by decide +kernel
theorem dX12_load_64 : decode cX12_load 64 = .ok (.invokevirtual 208, 3) := by decide +kernel
theorem dX12_load_67 : decode cX12_load 67 = .ok (.aload_n 0, 1) := by decide +kernel
theorem dX12_load_68 : decode cX12_load 68 = .ok (.aload_n 0, 1) := by decide +kernel
theorem dX12_load_69 : decode cX12_load 69 = .ok (.getfield 195, 3) := by decide +kernel
theorem dX12_load_72 : decode cX12_load 72 = .ok (.ifCond .ne 8, 3) := by decide +kernel
theorem dX12_load_75 : decode cX12_load 75 = .ok (.bipush (-9), 2) := by decide +kernel
theorem dX12_load_77 : decode cX12_load 77 = .ok (.goto 7, 3) := by decide +kernel
theorem dX12_load_80 : decode cX12_load 80 = .ok (.aload_n 0, 1) := by decide +kernel
theorem dX12_load_81 : decode cX12_load 81 = .ok (.getfield 195, 3) := by decide +kernel
theorem dX12_load_84 : decode cX12_load 84 = .ok (.putfield 19, 3) := by decide +kernel
theorem dX12_load_87 : decode cX12_load 87 = .ok (.aload_n 0, 1) := by decide +kernel
theorem dX12_load_88 : decode cX12_load 88 = .ok (.getfield 195, 3) := by decide +kernel
theorem dX12_load_91 : decode cX12_load 91 = .ok (.ifCond .le 11, 3) := by decide +kernel
theorem dX12_load_94 : decode cX12_load 94 = .ok (.bipush (-10), 2) := by decide +kernel
theorem dX12_load_96 : decode cX12_load 96 = .ok (.aload_n 0, 1) := by decide +kernel
theorem dX12_load_97 : decode cX12_load 97 = .ok (.getfield 188, 3) := by decide +kernel
theorem dX12_load_100 : decode cX12_load 100 = .ok (.isub, 1) := by decide +kernel
theorem dX12_load_101 : decode cX12_load 101 = .ok (.ireturn, 1) := by decide +kernel
theorem dX12_load_102 : decode cX12_load 102 = .ok (.aload_n 0, 1) := by decide +kernel
theorem dX12_load_103 : decode cX12_load 103 = .ok (.getfield 211, 3) := by decide +kernel
theorem dX12_load_106 : decode cX12_load 106 = .ok (.iconst 4, 1) := by decide +kernel
theorem dX12_load_107 : decode cX12_load 107 = .ok (.if_icmp .ne 43, 3) := by decide +kernel
theorem dX12_load_110 : decode cX12_load 110 = .ok (.iconst 0, 1) := by decide +kernel
theorem dX12_load_111 : decode cX12_load 111 = .ok (.istore_n 2, 1) := by decide +kernel
theorem dX12_load_112 : decode cX12_load 112 = .ok (.iload_n 2, 1) := by decide +kernel
theorem dX12_load_113 : decode cX12_load 113 = .ok (.sipush 339, 3) := by decide +kernel
theorem dX12_load_116 : decode cX12_load 116 = .ok (.if_icmp .ge 24, 3) := by decide +kernel
theorem dX12_load_119 : decode cX12_load 119 = .ok (.aload_n 0, 1) := by decide +kernel
theorem dX12_load_120 : decode cX12_load 120 = .ok (.getfield 13, 3) := by decide +kernel
theorem dX12_load_123 : decode cX12_load 123 = .ok (.iload_n 2, 1) := by decide +kernel
theorem dX12_load_124 : decode cX12_load 124 = .ok (.aload_n 0, 1) := by decide +kernel
theorem dX12_load_125 : decode cX12_load 125 = .ok (.getfield 13, 3) := by decide +kernel
theorem dX12_load_128 : decode cX12_load 128 = .ok (.iload_n 2, 1) := by decide +kernel
theorem dX12_load_129 : decode cX12_load 129 = .ok (.bipush 113, 2) := by decide +kernel
theorem dX12_load_131 : decode cX12_load 131 = .ok (.iadd, 1) := by decide +kernel
theorem dX12_load_132 : decode cX12_load 132 = .ok (.iaload, 1) := by decide +kernel
theorem dX12_load_133 : decode cX12_load 133 = .ok (.iastore, 1) := by decide +kernel
theorem dX12_load_134 : decode cX12_load 134 = .ok (.iinc 2 1, 3) := by decide +kernel
theorem dX12_load_137 : decode cX12_load 137 = .ok (.goto (-25), 3) := by decide +kernel
theorem dX12_load_140 : decode cX12_load 140 = .ok (.aload_n 0, 1) := by decide +kernel
theorem dX12_load_141 : decode cX12_load 141 = .ok (.dup, 1) := by decide +kernel
theorem dX12_load_142 : decode cX12_load 142 = .ok (.getfield 211, 3) := by decide +kernel
theorem dX12_load_145 : decode cX12_load 145 = .ok (.iconst 1, 1) := by decide +kernel
theorem dX12_load_146 : decode cX12_load 146 = .ok (.isub, 1) := by decide +kernel
theorem dX12_load_147 : decode cX12_load 147 = .ok (.putfield 211, 3) := by decide +kernel
theorem dX12_load_150 : decode cX12_load 150 = .ok (.iconst 0, 1) := by decide +kernel
theorem dX12_load_151 : decode cX12_load 151 = .ok (.istore_n 2, 1) := by decide +kernel
theorem dX12_load_152 : decode cX12_load 152 = .ok (.iload_n 2, 1) := by decide +kernel
theorem dX12_load_153 : decode cX12_load 153 = .ok (.bipush 113, 2) := by decide +kernel
theorem dX12_load_155 : decode cX12_load 155 = .ok (.if_icmp .ge 41, 3) := by decide +kernel
theorem dX12_load_158 : decode cX12_load 158 = .ok (.aload_n 0, 1) := by decide +kernel
theorem dX12_load_159 : decode cX12_load 159 = .ok (.getfield 13, 3) := by decide +kernel
theorem dX12_load_162 : decode cX12_load 162 = .ok (.bipush 113, 2) := by decide +kernel
theorem dX12_load_164 : decode cX12_load 164 = .ok (.aload_n 0, 1) := by decide +kernel
theorem dX12_load_165 : decode cX12_load 165 = .ok (.getfield 211, 3) := by decide +kernel
theorem dX12_load_168 : decode cX12_load 168 = .ok (.imul, 1) := by decide +kernel
theorem dX12_load_169 : decode cX12_load 169 = .ok (.iload_n 2, 1) := by decide +kernel
theorem dX12_load_170 : decode cX12_load 170 = .ok (.iadd, 1) := by decide +kernel
theorem dX12_load_171 : decode cX12_load 171 = .ok (.aload_n 0, 1) := by decide +kernel
theorem dX12_load_172 : decode cX12_load 172 = .ok (.getfield 7, 3) := by decide +kernel
theorem dX12_load_175 : decode cX12_load 175 = .ok (.iload_n 2, 1) := by decide +kernel
theorem dX12_load_176 : decode cX12_load 176 = .ok (.iaload, 1) := by decide +kernel
theorem dX12_load_177 : decode cX12_load 177 = .ok (.iastore, 1) := by decide +kernel
theorem dX12_load_178 : decode cX12_load 178 = .ok (.aload_n 0, 1) := by decide +kernel
theorem dX12_load_179 : decode cX12_load 179 = .ok (.getfield 7, 3) := by decide +kernel
theorem dX12_load_182 : decode cX12_load 182 = .ok (.iload_n 2, 1) := by decide +kernel
theorem dX12_load_183 : decode cX12_load 183 = .ok (.aload_n 0, 1) := by decide +kernel
theorem dX12_load_184 : decode cX12_load 184 = .ok (.getfield 63, 3) := by decide +kernel
theorem dX12_load_187 : decode cX12_load 187 = .ok (.iload_n 2, 1) := by decide +kernel
theorem dX12_load_188 : decode cX12_load 188 = .ok (.iaload, 1) := by decide +kernel
theorem dX12_load_189 : decode cX12_load 189 = .ok (.iastore, 1) := by decide +kernel
theorem dX12_load_190 : decode cX12_load 190 = .ok (.iinc 2 1, 3) := by decide +kernel
theorem dX12_load_193 : decode cX12_load 193 = .ok (.goto (-41), 3) := by decide +kernel
theorem dX12_load_196 : decode cX12_load 196 = .ok (.aload_n 0, 1) := by decide +kernel
theorem dX12_load_197 : decode cX12_load 197 = .ok (.dup, 1) := by decide +kernel
theorem dX12_load_198 : decode cX12_load 198 = .ok (.getfield 211, 3) := by decide +kernel
theorem dX12_load_201 : decode cX12_load 201 = .ok (.iconst 1, 1) := by decide +kernel
theorem dX12_load_202 : decode cX12_load 202 = .ok (.iadd, 1) := by decide +kernel
theorem dX12_load_203 : decode cX12_load 203 = .ok (.putfield 211, 3) := by decide +kernel
theorem dX12_load_206 : decode cX12_load 206 = .ok (.aload_n 0, 1) := by decide +kernel
theorem dX12_load_207 : decode cX12_load 207 = .ok (.invokevirtual 91, 3) := by decide +kernel
theorem dX12_load_210 : decode cX12_load 210 = .ok (.aload_n 0, 1) := by decide +kernel
theorem dX12_load_211 : decode cX12_load 211 = .ok (.invokevirtual 94, 3) := by decide +kernel
theorem dX12_load_214 : decode cX12_load 214 = .ok (.ireturn, 1) := by decide +kernel
theorem dX12_fault_0 : decode cX12_fault 0 = .ok (.aload_n 0, 1) := by decide +kernel
theorem dX12_fault_1 : decode cX12_fault 1 = .ok (.getfield 19, 3) := by decide +kernel
theorem dX12_fault_4 : decode cX12_fault 4 = .ok (.ireturn, 1) := by decide +kernel
theorem dX12_production_0 : decode cX12_production 0 = .ok (.aload_n 0, 1) := by decide +kernel
theorem dX12_production_1 : decode cX12_production 1 = .ok (.iload_n 1, 1) := by decide +kernel
theorem dX12_production_2 : decode cX12_production 2 = .ok (.invokevirtual 214, 3) := by decide +kernel
theorem dX12_production_5 : decode cX12_production 5 = .ok (.ifCond .eq 12, 3) := by decide +kernel
theorem dX12_production_8 : decode cX12_production 8 = .ok (.iload_n 2, 1) := by decide +kernel
theorem dX12_production_9 : decode cX12_production 9 = .ok (.iconst 0, 1) := by decide +kernel
theorem dX12_production_10 : decode cX12_production 10 = .ok (.iconst 1, 1) := by decide +kernel
theorem dX12_production_11 : decode cX12_production 11 = .ok (.invokestatic 98, 3) := by decide +kernel
theorem dX12_production_14 : decode cX12_production 14 = .ok (.ifCond .ne 7, 3) := by decide +kernel
theorem dX12_production_17 : decode cX12_production 17 = .ok (.iconst (-1), 1) := by decide +kernel
theorem dX12_production_18 : decode cX12_production 18 = .ok (.goto 20, 3) := by decide +kernel
theorem dX12_production_21 : decode cX12_production 21 = .ok (.iload_n 2, 1) := by decide +kernel
theorem dX12_production_22 : decode cX12_production 22 = .ok (.ifCond .ne 11, 3) := by decide +kernel
theorem dX12_production_25 : decode cX12_production 25 = .ok (.aload_n 0, 1) := by decide +kernel
theorem dX12_production_26 : decode cX12_production 26 = .ok (.iload_n 1, 1) := by decide +kernel
theorem dX12_production_27 : decode cX12_production 27 = .ok (.invokevirtual 102, 3) := by decide +kernel
theorem dX12_production_30 : decode cX12_production 30 = .ok (.goto 8, 3) := by decide +kernel
theorem dX12_production_33 : decode cX12_production 33 = .ok (.aload_n 0, 1) := by decide +kernel
theorem dX12_production_34 : decode cX12_production 34 = .ok (.iload_n 1, 1) := by decide +kernel
theorem dX12_production_35 : decode cX12_production 35 = .ok (.invokevirtual 117, 3) := by decide +kernel
theorem dX12_production_38 : decode cX12_production 38 = .ok (.ireturn, 1) := by decide +kernel
theorem dX12_symbol_0 : decode cX12_symbol 0 = .ok (.aload_n 0, 1) := by decide +kernel
theorem dX12_symbol_1 : decode cX12_symbol 1 = .ok (.iload_n 1, 1) := by decide +kernel
theorem dX12_symbol_2 : decode cX12_symbol 2 = .ok (.invokevirtual 214, 3) := by decide +kernel
theorem dX12_symbol_5 : decode cX12_symbol 5 = .ok (.ifCond .eq 7, 3) := by decide +kernel
theorem dX12_symbol_8 : decode cX12_symbol 8 = .ok (.iload_n 2, 1) := by decide +kernel
theorem dX12_symbol_9 : decode cX12_symbol 9 = .ok (.ifCond .ge 7, 3) := by decide +kernel
theorem dX12_symbol_12 : decode cX12_symbol 12 = .ok (.iconst (-1), 1) := by decide +kernel
theorem dX12_symbol_13 : decode cX12_symbol 13 = .ok (.goto 23, 3) := by decide +kernel
theorem dX12_symbol_16 : decode cX12_symbol 16 = .ok (.iload_n 2, 1) := by decide +kernel
theorem dX12_symbol_17 : decode cX12_symbol 17 = .ok (.aload_n 0, 1) := by decide +kernel
theorem dX12_symbol_18 : decode cX12_symbol 18 = .ok (.iload_n 1, 1) := by decide +kernel
theorem dX12_symbol_19 : decode cX12_symbol 19 = .ok (.invokevirtual 117, 3) := by decide +kernel
theorem dX12_symbol_22 : decode cX12_symbol 22 = .ok (.if_icmp .ge 12, 3) := by decide +kernel
theorem dX12_symbol_25 : decode cX12_symbol 25 = .ok (.aload_n 0, 1) := by decide +kernel
theorem dX12_symbol_26 : decode cX12_symbol 26 = .ok (.iload_n 1, 1) := by decide +kernel
theorem dX12_symbol_27 : decode cX12_symbol 27 = .ok (.iload_n 2, 1) := by decide +kernel
theorem dX12_symbol_28 : decode cX12_symbol 28 = .ok (.invokevirtual 109, 3) := by decide +kernel
theorem dX12_symbol_31 : decode cX12_symbol 31 = .ok (.goto 5, 3) := by decide +kernel
theorem dX12_symbol_34 : decode cX12_symbol 34 = .ok (.bipush (-9), 2) := by decide +kernel
theorem dX12_symbol_36 : decode cX12_symbol 36 = .ok (.ireturn, 1) := by decide +kernel
theorem dX12_tellName_0 : decode cX12_tellName 0 = .ok (.iload_n 2, 1) := by decide +kernel
theorem dX12_tellName_1 : decode cX12_tellName 1 = .ok (.bipush 7, 2) := by decide +kernel
theorem dX12_tellName_3 : decode cX12_tellName 3 = .ok (.if_icmp .ne 26, 3) := by decide +kernel
theorem dX12_tellName_6 : decode cX12_tellName 6 = .ok (.aload_n 0, 1) := by decide +kernel
theorem dX12_tellName_7 : decode cX12_tellName 7 = .ok (.getfield 30, 3) := by decide +kernel
theorem dX12_tellName_10 : decode cX12_tellName 10 = .ok (.iload_n 1, 1) := by decide +kernel
theorem dX12_tellName_11 : decode cX12_tellName 11 = .ok (.iaload, 1) := by decide +kernel
theorem dX12_tellName_12 : decode cX12_tellName 12 = .ok (.ldc 123, 2) := by decide +kernel
theorem dX12_tellName_14 : decode cX12_tellName 14 = .ok (.if_icmp .ne 8, 3) := by decide +kernel
theorem dX12_tellName_17 : decode cX12_tellName 17 = .ok (.bipush (-9), 2) := by decide +kernel
theorem dX12_tellName_19 : decode cX12_tellName 19 = .ok (.goto 9, 3) := by decide +kernel
theorem dX12_tellName_22 : decode cX12_tellName 22 = .ok (.aload_n 0, 1) := by decide +kernel
theorem dX12_tellName_23 : decode cX12_tellName 23 = .ok (.getfield 30, 3) := by decide +kernel
theorem dX12_tellName_26 : decode cX12_tellName 26 = .ok (.iload_n 1, 1) := by decide +kernel
theorem dX12_tellName_27 : decode cX12_tellName 27 = .ok (.iaload, 1) := by decide +kernel
