theorem dX12_init_0 : decode cX12_init 0 = .ok (.aload_n 0, 1) := by decide +kernel
theorem dX12_init_1 : decode cX12_init 1 = .ok (.invokespecial 1, 3) := by decide +kernel
theorem dX12_init_4 : decode cX12_init 4 = .ok (.aload_n 0, 1) := by decide +kernel
theorem dX12_init_5 : decode cX12_init 5 = .ok (.sipush 5632, 3) := by decide +kernel
theorem dX12_init_8 : decode cX12_init 8 = .ok (.newarray .int, 2) := by decide +kernel
theorem dX12_init_10 : decode cX12_init 10 = .ok (.putfield 7, 3) := by decide +kernel
theorem dX12_init_13 : decode cX12_init 13 = .ok (.aload_n 0, 1) := by decide +kernel
theorem dX12_init_14 : decode cX12_init 14 = .ok (.bipush 44, 2) := by decide +kernel
theorem dX12_init_16 : decode cX12_init 16 = .ok (.newarray .int, 2) := by decide +kernel
theorem dX12_init_18 : decode cX12_init 18 = .ok (.putfield 13, 3) := by decide +kernel
theorem dX12_init_21 : decode cX12_init 21 = .ok (.aload_n 0, 1) := by decide +kernel
theorem dX12_init_22 : decode cX12_init 22 = .ok (.bipush 48, 2) := by decide +kernel
theorem dX12_init_24 : decode cX12_init 24 = .ok (.newarray .int, 2) := by decide +kernel
theorem dX12_init_26 : decode cX12_init 26 = .ok (.putfield 16, 3) := by decide +kernel
theorem dX12_init_29 : decode cX12_init 29 = .ok (.aload_n 0, 1) := by decide +kernel
theorem dX12_init_30 : decode cX12_init 30 = .ok (.bipush 6, 2) := by decide +kernel
theorem dX12_init_32 : decode cX12_init 32 = .ok (.newarray .int, 2) := by decide +kernel
theorem dX12_init_34 : decode cX12_init 34 = .ok (.putfield 19, 3) := by decide +kernel
theorem dX12_init_37 : decode cX12_init 37 = .ok (.aload_n 0, 1) := by decide +kernel
theorem dX12_init_38 : decode cX12_init 38 = .ok (.bipush 6, 2) := by decide +kernel
theorem dX12_init_40 : decode cX12_init 40 = .ok (.newarray .int, 2) := by decide +kernel
theorem dX12_init_42 : decode cX12_init 42 = .ok (.putfield 22, 3) := by decide +kernel
theorem dX12_init_45 : decode cX12_init 45 = .ok (.aload_n 0, 1) := by decide +kernel
theorem dX12_init_46 : decode cX12_init 46 = .ok (.sipush 180, 3) := by decide +kernel
theorem dX12_init_49 : decode cX12_init 49 = .ok (.newarray .int, 2) := by decide +kernel
theorem dX12_init_51 : decode cX12_init 51 = .ok (.putfield 25, 3) := by decide +kernel
theorem dX12_init_54 : decode cX12_init 54 = .ok (.aload_n 0, 1) := by decide +kernel
theorem dX12_init_55 : decode cX12_init 55 = .ok (.bipush 18, 2) := by decide +kernel
theorem dX12_init_57 : decode cX12_init 57 = .ok (.newarray .int, 2) := by decide +kernel
theorem dX12_init_59 : decode cX12_init 59 = .ok (.putfield 28, 3) := by decide +kernel
theorem dX12_init_62 : decode cX12_init 62 = .ok (.aload_n 0, 1) := by decide +kernel
theorem dX12_init_63 : decode cX12_init 63 = .ok (.bipush 20, 2) := by decide +kernel
theorem dX12_init_65 : decode cX12_init 65 = .ok (.newarray .int, 2) := by decide +kernel
theorem dX12_init_67 : decode cX12_init 67 = .ok (.putfield 31, 3) := by decide +kernel
theorem dX12_init_70 : decode cX12_init 70 = .ok (.aload_n 0, 1) := by decide +kernel
theorem dX12_init_71 : decode cX12_init 71 = .ok (.sipush 460, 3) := by decide +kernel
theorem dX12_init_74 : decode cX12_init 74 = .ok (.newarray .int, 2) := by decide +kernel
theorem dX12_init_76 : decode cX12_init 76 = .ok (.putfield 34, 3) := by decide +kernel
theorem dX12_init_79 : decode cX12_init 79 = .ok (.aload_n 0, 1) := by decide +kernel
theorem dX12_init_80 : decode cX12_init 80 = .ok (.bipush 64, 2) := by decide +kernel
theorem dX12_init_82 : decode cX12_init 82 = .ok (.newarray .int, 2) := by decide +kernel
theorem dX12_init_84 : decode cX12_init 84 = .ok (.putfield 37, 3) := by decide +kernel
theorem dX12_init_87 : decode cX12_init 87 = .ok (.aload_n 0, 1) := by decide +kernel
theorem dX12_init_88 : decode cX12_init 88 = .ok (.bipush 64, 2) := by decide +kernel
theorem dX12_init_90 : decode cX12_init 90 = .ok (.newarray .int, 2) := by decide +kernel
theorem dX12_init_92 : decode cX12_init 92 = .ok (.putfield 40, 3) := by decide +kernel
theorem dX12_init_95 : decode cX12_init 95 = .ok (.aload_n 0, 1) := by decide +kernel
theorem dX12_init_96 : decode cX12_init 96 = .ok (.bipush 64, 2) := by decide +kernel
theorem dX12_init_98 : decode cX12_init 98 = .ok (.newarray .int, 2) := by decide +kernel
theorem dX12_init_100 : decode cX12_init 100 = .ok (.putfield 43, 3) := by decide +kernel
theorem dX12_init_103 : decode cX12_init 103 = .ok (.aload_n 0, 1) := by decide +kernel
theorem dX12_init_104 : decode cX12_init 104 = .ok (.bipush 64, 2) := by decide +kernel
theorem dX12_init_106 : decode cX12_init 106 = .ok (.newarray .int, 2) := by decide +kernel
theorem dX12_init_108 : decode cX12_init 108 = .ok (.putfield 46, 3) := by decide +kernel
theorem dX12_init_111 : decode cX12_init 111 = .ok (.aload_n 0, 1) := by decide +kernel
theorem dX12_init_112 : decode cX12_init 112 = .ok (.bipush 64, 2) := by decide +kernel
theorem dX12_init_114 : decode cX12_init 114 = .ok (.newarray .int, 2) := by decide +kernel
theorem dX12_init_116 : decode cX12_init 116 = .ok (.putfield 49, 3) := by decide +kernel
theorem dX12_init_119 : decode cX12_init 119 = .ok (.aload_n 0, 1) := by decide +kernel
theorem dX12_init_120 : decode cX12_init 120 = .ok (.sipush 16400, 3) := by decide +kernel
theorem dX12_init_123 : decode cX12_init 123 = .ok (.newarray .int, 2) := by decide +kernel
theorem dX12_init_125 : decode cX12_init 125 = .ok (.putfield 52, 3) := by decide +kernel
theorem dX12_init_128 : decode cX12_init 128 = .ok (.aload_n 0, 1) := by decide +kernel
theorem dX12_init_129 : decode cX12_init 129 = .ok (.sipush 440, 3) := by decide +kernel
theorem dX12_init_132 : decode cX12_init 132 = .ok (.newarray .int, 2) := by decide +kernel
theorem dX12_init_134 : decode cX12_init 134 = .ok (.putfield 55, 3) := by decide +kernel
theorem dX12_init_137 : decode cX12_init 137 = .ok (.aload_n 0, 1) := by decide +kernel
theorem dX12_init_138 : decode cX12_init 138 = .ok (.bipush 64, 2) := by decide +kernel
theorem dX12_init_140 : decode cX12_init 140 = .ok (.newarray .int, 2) := by decide +kernel
theorem dX12_init_142 : decode cX12_init 142 = .ok (.putfield 58, 3) := by decide +kernel
theorem dX12_init_145 : decode cX12_init 145 = .ok (.aload_n 0, 1) := by decide +kernel
theorem dX12_init_146 : decode cX12_init 146 = .ok (.sipush 1600, 3) := by decide +kernel
theorem dX12_init_149 : decode cX12_init 149 = .ok (.newarray .int, 2) := by decide +kernel
theorem dX12_init_151 : decode cX12_init 151 = .ok (.putfield 61, 3) := by decide +kernel
theorem dX12_init_154 : decode cX12_init 154 = .ok (.aload_n 0, 1) := by decide +kernel
theorem dX12_init_155 : decode cX12_init 155 = .ok (.bipush 40, 2) := by decide +kernel
theorem dX12_init_157 : decode cX12_init 157 = .ok (.newarray .int, 2) := by decide +kernel
theorem dX12_init_159 : decode cX12_init 159 = .ok (.putfield 64, 3) := by decide +kernel
theorem dX12_init_162 : decode cX12_init 162 = .ok (.aload_n 0, 1) := by decide +kernel
theorem dX12_init_163 : decode cX12_init 163 = .ok (.iconst 3, 1) := by decide +kernel
theorem dX12_init_164 : decode cX12_init 164 = .ok (.newarray .int, 2) := by decide +kernel
theorem dX12_init_166 : decode cX12_init 166 = .ok (.putfield 67, 3) := by decide +kernel
theorem dX12_init_169 : decode cX12_init 169 = .ok (.aload_n 0, 1) := by decide +kernel
theorem dX12_init_170 : decode cX12_init 170 = .ok (.iconst 3, 1) := by decide +kernel
theorem dX12_init_171 : decode cX12_init 171 = .ok (.newarray .int, 2) := by decide +kernel
theorem dX12_init_173 : decode cX12_init 173 = .ok (.putfield 70, 3) := by decide +kernel
theorem dX12_init_176 : decode cX12_init 176 = .ok (.aload_n 0, 1) := by decide +kernel
theorem dX12_init_177 : decode cX12_init 177 = .ok (.bipush 99, 2) := by decide +kernel
theorem dX12_init_179 : decode cX12_init 179 = .ok (.newarray .int, 2) := by decide +kernel
theorem dX12_init_181 : decode cX12_init 181 = .ok (.putfield 73, 3) := by decide +kernel
theorem dX12_init_184 : decode cX12_init 184 = .ok (.aload_n 0, 1) := by decide +kernel
theorem dX12_init_185 : decode cX12_init 185 = .ok (.bipush 99, 2) := by decide +kernel
theorem dX12_init_187 : decode cX12_init 187 = .ok (.newarray .int, 2) := by decide +kernel
theorem dX12_init_189 : decode cX12_init 189 = .ok (.putfield 76, 3) := by decide +kernel
theorem dX12_init_192 : decode cX12_init 192 = .ok (.aload_n 0, 1) := by decide +kernel
theorem dX12_init_193 : decode cX12_init 193 = .ok (.bipush (-9), 2) := by decide +kernel
theorem dX12_init_195 : decode cX12_init 195 = .ok (.putfield 79, 3) := by decide +kernel
theorem dX12_init_198 : decode cX12_init 198 = .ok (.aload_n 0, 1) := by decide +kernel
theorem dX12_init_199 : decode cX12_init 199 = .ok (.iconst 3, 1) := by decide +kernel
theorem dX12_init_200 : decode cX12_init 200 = .ok (.newarray .int, 2) := by decide +kernel
theorem dX12_init_202 : decode cX12_init 202 = .ok (.putfield 83, 3) := by decide +kernel
theorem dX12_init_205 : decode cX12_init 205 = .ok (.aload_n 0, 1) := by decide +kernel
theorem dX12_init_206 : decode cX12_init 206 = .ok (.iconst 3, 1) := by decide +kernel
theorem dX12_init_207 : decode cX12_init 207 = .ok (.newarray .int, 2) := by decide +kernel
theorem dX12_init_209 : decode cX12_init 209 = .ok (.putfield 86, 3) := by decide +kernel
theorem dX12_init_212 : decode cX12_init 212 = .ok (.aload_n 0, 1) := by decide +kernel
theorem dX12_init_213 : decode cX12_init 213 = .ok (.iconst 3, 1) := by decide +kernel
theorem dX12_init_214 : decode cX12_init 214 = .ok (.newarray .int, 2) := by decide +kernel
theorem dX12_init_216 : decode cX12_init 216 = .ok (.putfield 89, 3) := by decide +kernel
theorem dX12_init_219 : decode cX12_init 219 = .ok (.return_, 1) := by decide +kernel
theorem dX12_within_0 : decode cX12_within 0 = .ok (.iload_n 0, 1) := by decide +kernel
theorem dX12_within_1 : decode cX12_within 1 = .ok (.iload_n 1, 1) := by decide +kernel
theorem dX12_within_2 : decode cX12_within 2 = .ok (.if_icmp .lt 12, 3) := by decide +kernel
theorem dX12_within_5 : decode cX12_within 5 = .ok (.iload_n 0, 1) := by decide +kernel
theorem dX12_within_6 : decode cX12_within 6 = .ok (.iload_n 2, 1) := by decide +kernel
theorem dX12_within_7 : decode cX12_within 7 = .ok (.if_icmp .gt 7, 3) := by decide +kernel
theorem dX12_within_10 : decode cX12_within 10 = .ok (.iconst 1, 1) := by decide +kernel
theorem dX12_within_11 : decode cX12_within 11 = .ok (.goto 4, 3) := by decide +kernel
theorem dX12_within_14 : decode cX12_within 14 = .ok (.iconst 0, 1) := by decide +kernel
theorem dX12_within_15 : decode cX12_within 15 = .ok (.ireturn, 1) := by decide +kernel
theorem dX12_at_0 : decode cX12_at 0 = .ok (.aload_n 0, 1) := by decide +kernel
theorem dX12_at_1 : decode cX12_at 1 = .ok (.getfield 7, 3) := by decide +kernel
theorem dX12_at_4 : decode cX12_at 4 = .ok (.sipush 128, 3) := by decide +kernel
theorem dX12_at_7 : decode cX12_at 7 = .ok (.iload_n 1, 1) := by decide +kernel
theorem dX12_at_8 : decode cX12_at 8 = .ok (.imul, 1) := by decide +kernel
theorem dX12_at_9 : decode cX12_at 9 = .ok (.iload_n 2, 1) := by decide +kernel
theorem dX12_at_10 : decode cX12_at 10 = .ok (.iadd, 1) := by decide +kernel
theorem dX12_at_11 : decode cX12_at 11 = .ok (.iaload, 1) := by decide +kernel
theorem dX12_at_12 : decode cX12_at 12 = .ok (.ireturn, 1) := by decide +kernel
theorem dX12_puts_0 : decode cX12_puts 0 = .ok (.aload_n 0, 1) := by decide +kernel
theorem dX12_puts_1 : decode cX12_puts 1 = .ok (.getfield 7, 3) := by decide +kernel
theorem dX12_puts_4 : decode cX12_puts 4 = .ok (.sipush 128, 3) := by decide +kernel
theorem dX12_puts_7 : decode cX12_puts 7 = .ok (.iload_n 1, 1) := by decide +kernel
theorem dX12_puts_8 : decode cX12_puts 8 = .ok (.imul, 1) := by decide +kernel
theorem dX12_puts_9 : decode cX12_puts 9 = .ok (.aload_n 0, 1) := by decide +kernel
theorem dX12_puts_10 : decode cX12_puts 10 = .ok (.getfield 13, 3) := by decide +kernel
theorem dX12_puts_13 : decode cX12_puts 13 = .ok (.iload_n 1, 1) := by decide +kernel
theorem dX12_puts_14 : decode cX12_puts 14 = .ok (.iaload, 1) := by decide +kernel
theorem dX12_puts_15 : decode cX12_puts 15 = .ok (.iadd, 1) := by decide +kernel
theorem dX12_puts_16 : decode cX12_puts 16 = .ok (.iload_n 2, 1) := by decide +kernel
theorem dX12_puts_17 : decode cX12_puts 17 = .ok (.iastore, 1) := by decide +kernel
theorem dX12_puts_18 : decode cX12_puts 18 = .ok (.aload_n 0, 1) := by decide +kernel
theorem dX12_puts_19 : decode cX12_puts 19 = .ok (.getfield 13, 3) := by decide +kernel
theorem dX12_puts_22 : decode cX12_puts 22 = .ok (.iload_n 1, 1) := by decide +kernel
theorem dX12_puts_23 : decode cX12_puts 23 = .ok (.dup2, 1) := by decide +kernel
theorem dX12_puts_24 : decode cX12_puts 24 = .ok (.iaload, 1) := by decide +kernel
theorem dX12_puts_25 : decode cX12_puts 25 = .ok (.iconst 1, 1) := by decide +kernel
theorem dX12_puts_26 : decode cX12_puts 26 = .ok (.iadd, 1) := by decide +kernel
theorem dX12_puts_27 : decode cX12_puts 27 = .ok (.iastore, 1) := by decide +kernel
theorem dX12_puts_28 : decode cX12_puts 28 = .ok (.return_, 1) := by decide +kernel
theorem dX12_copies_0 : decode cX12_copies 0 = .ok (.aload_n 0, 1) := by decide +kernel
theorem dX12_copies_1 : decode cX12_copies 1 = .ok (.getfield 13, 3) := by decide +kernel
theorem dX12_copies_4 : decode cX12_copies 4 = .ok (.iload_n 2, 1) := by decide +kernel
theorem dX12_copies_5 : decode cX12_copies 5 = .ok (.aload_n 0, 1) := by decide +kernel
theorem dX12_copies_6 : decode cX12_copies 6 = .ok (.getfield 13, 3) := by decide +kernel
theorem dX12_copies_9 : decode cX12_copies 9 = .ok (.iload_n 1, 1) := by decide +kernel
theorem dX12_copies_10 : decode cX12_copies 10 = .ok (.iaload, 1) := by decide +kernel
theorem dX12_copies_11 : decode cX12_copies 11 = .ok (.iastore, 1) := by decide +kernel
theorem dX12_copies_12 : decode cX12_copies 12 = .ok (.iconst 0, 1) := by decide +kernel
theorem dX12_copies_13 : decode cX12_copies 13 = .ok (.istore_n 3, 1) := by decide +kernel
theorem dX12_copies_14 : decode cX12_copies 14 = .ok (.iload_n 3, 1) := by decide +kernel
theorem dX12_copies_15 : decode cX12_copies 15 = .ok (.aload_n 0, 1) := by decide +kernel
theorem dX12_copies_16 : decode cX12_copies 16 = .ok (.getfield 13, 3) := by decide +kernel
theorem dX12_copies_19 : decode cX12_copies 19 = .ok (.iload_n 1, 1) := by decide +kernel
theorem dX12_copies_20 : decode cX12_copies 20 = .ok (.iaload, 1) := by decide +kernel
theorem dX12_copies_21 : decode cX12_copies 21 = .ok (.if_icmp .ge 27, 3) := by decide +kernel
theorem dX12_copies_24 : decode cX12_copies 24 = .ok (.aload_n 0, 1) := by decide +kernel
theorem dX12_copies_25 : decode cX12_copies 25 = .ok (.getfield 7, 3) := by decide +kernel
theorem dX12_copies_28 : decode cX12_copies 28 = .ok (.sipush 128, 3) := by decide +kernel
theorem dX12_copies_31 : decode cX12_copies 31 = .ok (.iload_n 2, 1) := by decide +kernel
theorem dX12_copies_32 : decode cX12_copies 32 = .ok (.imul, 1) := by decide +kernel
theorem dX12_copies_33 : decode cX12_copies 33 = .ok (.iload_n 3, 1) := by decide +kernel
theorem dX12_copies_34 : decode cX12_copies 34 = .ok (.iadd, 1) := by decide +kernel
theorem dX12_copies_35 : decode cX12_copies 35 = .ok (.aload_n 0, 1) := by decide +kernel
theorem dX12_copies_36 : decode cX12_copies 36 = .ok (.iload_n 1, 1) := by decide +kernel
theorem dX12_copies_37 : decode cX12_copies 37 = .ok (.iload_n 3, 1) := by decide +kernel
theorem dX12_copies_38 : decode cX12_copies 38 = .ok (.invokevirtual 92, 3) := by decide +kernel
theorem dX12_copies_41 : decode cX12_copies 41 = .ok (.iastore, 1) := by decide +kernel
theorem dX12_copies_42 : decode cX12_copies 42 = .ok (.iinc 3 1, 3) := by decide +kernel
theorem dX12_copies_45 : decode cX12_copies 45 = .ok (.goto (-31), 3) := by decide +kernel
theorem dX12_copies_48 : decode cX12_copies 48 = .ok (.return_, 1) := by decide +kernel
theorem dX12_isVariable_0 : decode cX12_isVariable 0 = .ok (.iload_n 0, 1) := by decide +kernel
theorem dX12_isVariable_1 : decode cX12_isVariable 1 = .ok (.bipush 120, 2) := by decide +kernel
theorem dX12_isVariable_3 : decode cX12_isVariable 3 = .ok (.bipush 122, 2) := by decide +kernel
theorem dX12_isVariable_5 : decode cX12_isVariable 5 = .ok (.invokestatic 96, 3) := by decide +kernel
theorem dX12_isVariable_8 : decode cX12_isVariable 8 = .ok (.ireturn, 1) := by decide +kernel
theorem dX12_isLetter_0 : decode cX12_isLetter 0 = .ok (.iload_n 0, 1) := by decide +kernel
theorem dX12_isLetter_1 : decode cX12_isLetter 1 = .ok (.bipush 97, 2) := by decide +kernel
theorem dX12_isLetter_3 : decode cX12_isLetter 3 = .ok (.bipush 102, 2) := by decide +kernel
theorem dX12_isLetter_5 : decode cX12_isLetter 5 = .ok (.invokestatic 96, 3) := by decide +kernel
theorem dX12_isLetter_8 : decode cX12_isLetter 8 = .ok (.ireturn, 1) := by decide +kernel
theorem dX12_arity_0 : decode cX12_arity 0 = .ok (.iload_n 1, 1) := by decide +kernel
theorem dX12_arity_1 : decode cX12_arity 1 = .ok (.bipush 83, 2) := by decide +kernel
theorem dX12_arity_3 : decode cX12_arity 3 = .ok (.if_icmp .ne 7, 3) := by decide +kernel
theorem dX12_arity_6 : decode cX12_arity 6 = .ok (.iconst 1, 1) := by decide +kernel
theorem dX12_arity_7 : decode cX12_arity 7 = .ok (.goto 23, 3) := by decide +kernel
theorem dX12_arity_10 : decode cX12_arity 10 = .ok (.iload_n 1, 1) := by decide +kernel
theorem dX12_arity_11 : decode cX12_arity 11 = .ok (.invokestatic 100, 3) := by decide +kernel
theorem dX12_arity_14 : decode cX12_arity 14 = .ok (.ifCond .eq 15, 3) := by decide +kernel
theorem dX12_arity_17 : decode cX12_arity 17 = .ok (.aload_n 0, 1) := by decide +kernel
theorem dX12_arity_18 : decode cX12_arity 18 = .ok (.getfield 19, 3) := by decide +kernel
theorem dX12_arity_21 : decode cX12_arity 21 = .ok (.iload_n 1, 1) := by decide +kernel
theorem dX12_arity_22 : decode cX12_arity 22 = .ok (.bipush 97, 2) := by decide +kernel
theorem dX12_arity_24 : decode cX12_arity 24 = .ok (.isub, 1) := by decide +kernel
theorem dX12_arity_25 : decode cX12_arity 25 = .ok (.iaload, 1) := by decide +kernel
theorem dX12_arity_26 : decode cX12_arity 26 = .ok (.goto 4, 3) := by decide +kernel
theorem dX12_arity_29 : decode cX12_arity 29 = .ok (.iconst 0, 1) := by decide +kernel
theorem dX12_arity_30 : decode cX12_arity 30 = .ok (.ireturn, 1) := by decide +kernel
theorem dX12_end_0 : decode cX12_end 0 = .ok (.iconst 1, 1) := by decide +kernel
theorem dX12_end_1 : decode cX12_end 1 = .ok (.istore_n 3, 1) := by decide +kernel
theorem dX12_end_2 : decode cX12_end 2 = .ok (.iload_n 2, 1) := by decide +kernel
theorem dX12_end_3 : decode cX12_end 3 = .ok (.istore 4, 2) := by decide +kernel
theorem dX12_end_5 : decode cX12_end 5 = .ok (.iload_n 3, 1) := by decide +kernel
theorem dX12_end_6 : decode cX12_end 6 = .ok (.ifCond .le 25, 3) := by decide +kernel
theorem dX12_end_9 : decode cX12_end 9 = .ok (.iload_n 3, 1) := by decide +kernel
theorem dX12_end_10 : decode cX12_end 10 = .ok (.aload_n 0, 1) := by decide +kernel
theorem dX12_end_11 : decode cX12_end 11 = .ok (.aload_n 0, 1) := by decide +kernel
theorem dX12_end_12 : decode cX12_end 12 = .ok (.iload_n 1, 1) := by decide +kernel
theorem dX12_end_13 : decode cX12_end 13 = .ok (.iload 4, 2) := by decide +kernel
theorem dX12_end_15 : decode cX12_end 15 = .ok (.invokevirtual 92, 3) := by decide +kernel
theorem dX12_end_18 : decode cX12_end 18 = .ok (.invokevirtual 104, 3) := by decide +kernel
theorem dX12_end_21 : decode cX12_end 21 = .ok (.iconst 1, 1) := by decide +kernel
theorem dX12_end_22 : decode cX12_end 22 = .ok (.isub, 1) := by decide +kernel
theorem dX12_end_23 : decode cX12_end 23 = .ok (.iadd, 1) := by decide +kernel
theorem dX12_end_24 : decode cX12_end 24 = .ok (.istore_n 3, 1) := by decide +kernel
theorem dX12_end_25 : decode cX12_end 25 = .ok (.iinc 4 1, 3) := by decide +kernel
theorem dX12_end_28 : decode cX12_end 28 = .ok (.goto (-23), 3) := by decide +kernel
theorem dX12_end_31 : decode cX12_end 31 = .ok (.iload 4, 2) := by decide +kernel
theorem dX12_end_33 : decode cX12_end 33 = .ok (.ireturn, 1) := by decide +kernel
theorem dX12_areSame_0 : decode cX12_areSame 0 = .ok (.aload_n 0, 1) := by decide +kernel
theorem dX12_areSame_1 : decode cX12_areSame 1 = .ok (.getfield 13, 3) := by decide +kernel
theorem dX12_areSame_4 : decode cX12_areSame 4 = .ok (.iload_n 1, 1) := by decide +kernel
theorem dX12_areSame_5 : decode cX12_areSame 5 = .ok (.iaload, 1) := by decide +kernel
theorem dX12_areSame_6 : decode cX12_areSame 6 = .ok (.aload_n 0, 1) := by decide +kernel
theorem dX12_areSame_7 : decode cX12_areSame 7 = .ok (.getfield 13, 3) := by decide +kernel
theorem dX12_areSame_10 : decode cX12_areSame 10 = .ok (.iload_n 2, 1) := by decide +kernel
theorem dX12_areSame_11 : decode cX12_areSame 11 = .ok (.iaload, 1) := by decide +kernel
theorem dX12_areSame_12 : decode cX12_areSame 12 = .ok (.if_icmp .ne 7, 3) := by decide +kernel
theorem dX12_areSame_15 : decode cX12_areSame 15 = .ok (.iconst 1, 1) := by decide +kernel
theorem dX12_areSame_16 : decode cX12_areSame 16 = .ok (.goto 4, 3) := by decide +kernel
theorem dX12_areSame_19 : decode cX12_areSame 19 = .ok (.iconst 0, 1) := by decide +kernel
theorem dX12_areSame_20 : decode cX12_areSame 20 = .ok (.istore_n 3, 1) := by decide +kernel
theorem dX12_areSame_21 : decode cX12_areSame 21 = .ok (.iconst 0, 1) := by decide +kernel
theorem dX12_areSame_22 : decode cX12_areSame 22 = .ok (.istore 4, 2) := by decide +kernel
theorem dX12_areSame_24 : decode cX12_areSame 24 = .ok (.iload 4, 2) := by decide +kernel
theorem dX12_areSame_26 : decode cX12_areSame 26 = .ok (.aload_n 0, 1) := by decide +kernel
theorem dX12_areSame_27 : decode cX12_areSame 27 = .ok (.getfield 13, 3) := by decide +kernel
theorem dX12_areSame_30 : decode cX12_areSame 30 = .ok (.iload_n 1, 1) := by decide +kernel
theorem dX12_areSame_31 : decode cX12_areSame 31 = .ok (.iaload, 1) := by decide +kernel
theorem dX12_areSame_32 : decode cX12_areSame 32 = .ok (.if_icmp .ge 36, 3) := by decide +kernel
theorem dX12_areSame_35 : decode cX12_areSame 35 = .ok (.iload_n 3, 1) := by decide +kernel
theorem dX12_areSame_36 : decode cX12_areSame 36 = .ok (.ifCond .eq 32, 3) := by decide +kernel
theorem dX12_areSame_39 : decode cX12_areSame 39 = .ok (.aload_n 0, 1) := by decide +kernel
theorem dX12_areSame_40 : decode cX12_areSame 40 = .ok (.iload_n 1, 1) := by decide +kernel
theorem dX12_areSame_41 : decode cX12_areSame 41 = .ok (.iload 4, 2) := by decide +kernel
theorem dX12_areSame_43 : decode cX12_areSame 43 = .ok (.invokevirtual 92, 3) := by decide +kernel
theorem dX12_areSame_46 : decode cX12_areSame 46 = .ok (.aload_n 0, 1) := by decide +kernel
theorem dX12_areSame_47 : decode cX12_areSame 47 = .ok (.iload_n 2, 1) := by decide +kernel
theorem dX12_areSame_48 : decode cX12_areSame 48 = .ok (.iload 4, 2) := by decide +kernel
theorem dX12_areSame_50 : decode cX12_areSame 50 = .ok (.invokevirtual 92, 3) := by decide +kernel
theorem dX12_areSame_53 : decode cX12_areSame 53 = .ok (.if_icmp .ne 7, 3) := by decide +kernel
theorem dX12_areSame_56 : decode cX12_areSame 56 = .ok (.iconst 1, 1) := by decide +kernel
theorem dX12_areSame_57 : decode cX12_areSame 57 = .ok (.goto 4, 3) := by decide +kernel
theorem dX12_areSame_60 : decode cX12_areSame 60 = .ok (.iconst 0, 1) := by decide +kernel
theorem dX12_areSame_61 : decode cX12_areSame 61 = .ok (.istore_n 3, 1) := by decide +kernel
theorem dX12_areSame_62 : decode cX12_areSame 62 = .ok (.iinc 4 1, 3) := by decide +kernel
theorem dX12_areSame_65 : decode cX12_areSame 65 = .ok (.goto (-41), 3) := by decide +kernel
theorem dX12_areSame_68 : decode cX12_areSame 68 = .ok (.iload_n 3, 1) := by decide +kernel
theorem dX12_areSame_69 : decode cX12_areSame 69 = .ok (.ireturn, 1) := by decide +kernel
theorem dX12_isSamePart_0 : decode cX12_isSamePart 0 = .ok (.iconst 0, 1) := by decide +kernel
theorem dX12_isSamePart_1 : decode cX12_isSamePart 1 = .ok (.istore 6, 2) := by decide +kernel
theorem dX12_isSamePart_3 : decode cX12_isSamePart 3 = .ok (.iload 6, 2) := by decide +kernel
theorem dX12_isSamePart_5 : decode cX12_isSamePart 5 = .ok (.iload 5, 2) := by decide +kernel
theorem dX12_isSamePart_7 : decode cX12_isSamePart 7 = .ok (.if_icmp .ge 33, 3) := by decide +kernel
theorem dX12_isSamePart_10 : decode cX12_isSamePart 10 = .ok (.aload_n 0, 1) := by decide +kernel
theorem dX12_isSamePart_11 : decode cX12_isSamePart 11 = .ok (.iload_n 1, 1) := by decide +kernel
theorem dX12_isSamePart_12 : decode cX12_isSamePart 12 = .ok (.iload_n 2, 1) := by decide +kernel
theorem dX12_isSamePart_13 : decode cX12_isSamePart 13 = .ok (.iload 6, 2) := by decide +kernel
theorem dX12_isSamePart_15 : decode cX12_isSamePart 15 = .ok (.iadd, 1) := by decide +kernel
theorem dX12_isSamePart_16 : decode cX12_isSamePart 16 = .ok (.invokevirtual 92, 3) := by decide +kernel
theorem dX12_isSamePart_19 : decode cX12_isSamePart 19 = .ok (.aload_n 0, 1) := by decide +kernel
theorem dX12_isSamePart_20 : decode cX12_isSamePart 20 = .ok (.iload_n 3, 1) := by decide +kernel
theorem dX12_isSamePart_21 : decode cX12_isSamePart 21 = .ok (.iload 4, 2) := by decide +kernel
theorem dX12_isSamePart_23 : decode cX12_isSamePart 23 = .ok (.iload 6, 2) := by decide +kernel
theorem dX12_isSamePart_25 : decode cX12_isSamePart 25 = .ok (.iadd, 1) := by decide +kernel
theorem dX12_isSamePart_26 : decode cX12_isSamePart 26 = .ok (.invokevirtual 92, 3) := by decide +kernel
theorem dX12_isSamePart_29 : decode cX12_isSamePart 29 = .ok (.if_icmp .eq 5, 3) := by decide +kernel
theorem dX12_isSamePart_32 : decode cX12_isSamePart 32 = .ok (.iconst 0, 1) := by decide +kernel
theorem dX12_isSamePart_33 : decode cX12_isSamePart 33 = .ok (.ireturn, 1) := by decide +kernel
theorem dX12_isSamePart_34 : decode cX12_isSamePart 34 = .ok (.iinc 6 1, 3) := by decide +kernel
theorem dX12_isSamePart_37 : decode cX12_isSamePart 37 = .ok (.goto (-34), 3) := by decide +kernel
theorem dX12_isSamePart_40 : decode cX12_isSamePart 40 = .ok (.iconst 1, 1) := by decide +kernel
theorem dX12_isSamePart_41 : decode cX12_isSamePart 41 = .ok (.ireturn, 1) := by decide +kernel
theorem dX12_hasSign_0 : decode cX12_hasSign 0 = .ok (.iconst 0, 1) := by decide +kernel
theorem dX12_hasSign_1 : decode cX12_hasSign 1 = .ok (.istore_n 3, 1) := by decide +kernel
theorem dX12_hasSign_2 : decode cX12_hasSign 2 = .ok (.iload_n 3, 1) := by decide +kernel
theorem dX12_hasSign_3 : decode cX12_hasSign 3 = .ok (.aload_n 0, 1) := by decide +kernel
theorem dX12_hasSign_4 : decode cX12_hasSign 4 = .ok (.getfield 13, 3) := by decide +kernel
theorem dX12_hasSign_7 : decode cX12_hasSign 7 = .ok (.iload_n 1, 1) := by decide +kernel
theorem dX12_hasSign_8 : decode cX12_hasSign 8 = .ok (.iaload, 1) := by decide +kernel
theorem dX12_hasSign_9 : decode cX12_hasSign 9 = .ok (.if_icmp .ge 21, 3) := by decide +kernel
theorem dX12_hasSign_12 : decode cX12_hasSign 12 = .ok (.aload_n 0, 1) := by decide +kernel
theorem dX12_hasSign_13 : decode cX12_hasSign 13 = .ok (.iload_n 1, 1) := by decide +kernel
theorem dX12_hasSign_14 : decode cX12_hasSign 14 = .ok (.iload_n 3, 1) := by decide +kernel
theorem dX12_hasSign_15 : decode cX12_hasSign 15 = .ok (.invokevirtual 92, 3) := by decide +kernel
theorem dX12_hasSign_18 : decode cX12_hasSign 18 = .ok (.iload_n 2, 1) := by decide +kernel
theorem dX12_hasSign_19 : decode cX12_hasSign 19 = .ok (.if_icmp .ne 5, 3) := by decide +kernel
theorem dX12_hasSign_22 : decode cX12_hasSign 22 = .ok (.iconst 1, 1) := by decide +kernel
theorem dX12_hasSign_23 : decode cX12_hasSign 23 = .ok (.ireturn, 1) := by decide +kernel
theorem dX12_hasSign_24 : decode cX12_hasSign 24 = .ok (.iinc 3 1, 3) := by decide +kernel
theorem dX12_hasSign_27 : decode cX12_hasSign 27 = .ok (.goto (-25), 3) := by decide +kernel
theorem dX12_hasSign_30 : decode cX12_hasSign 30 = .ok (.iconst 0, 1) := by decide +kernel
theorem dX12_hasSign_31 : decode cX12_hasSign 31 = .ok (.ireturn, 1) := by decide +kernel
theorem dX12_type_0 : decode cX12_type 0 = .ok (.iload_n 1, 1) := by decide +kernel
theorem dX12_type_1 : decode cX12_type 1 = .ok (.iconst 0, 1) := by decide +kernel
theorem dX12_type_2 : decode cX12_type 2 = .ok (.bipush 127, 2) := by decide +kernel
theorem dX12_type_4 : decode cX12_type 4 = .ok (.invokestatic 96, 3) := by decide +kernel
theorem dX12_type_7 : decode cX12_type 7 = .ok (.ifCond .ne 6, 3) := by decide +kernel
theorem dX12_type_10 : decode cX12_type 10 = .ok (.bipush (-2), 2) := by decide +kernel
theorem dX12_type_12 : decode cX12_type 12 = .ok (.ireturn, 1) := by decide +kernel
theorem dX12_type_13 : decode cX12_type 13 = .ok (.aload_n 0, 1) := by decide +kernel
theorem dX12_type_14 : decode cX12_type 14 = .ok (.getfield 108, 3) := by decide +kernel
theorem dX12_type_17 : decode cX12_type 17 = .ok (.bipush 48, 2) := by decide +kernel
theorem dX12_type_19 : decode cX12_type 19 = .ok (.if_icmp .ne 6, 3) := by decide +kernel
theorem dX12_type_22 : decode cX12_type 22 = .ok (.bipush (-4), 2) := by decide +kernel
theorem dX12_type_24 : decode cX12_type 24 = .ok (.ireturn, 1) := by decide +kernel
theorem dX12_type_25 : decode cX12_type 25 = .ok (.aload_n 0, 1) := by decide +kernel
theorem dX12_type_26 : decode cX12_type 26 = .ok (.getfield 16, 3) := by decide +kernel
theorem dX12_type_29 : decode cX12_type 29 = .ok (.aload_n 0, 1) := by decide +kernel
theorem dX12_type_30 : decode cX12_type 30 = .ok (.getfield 108, 3) := by decide +kernel
theorem dX12_type_33 : decode cX12_type 33 = .ok (.iload_n 1, 1) := by decide +kernel
theorem dX12_type_34 : decode cX12_type 34 = .ok (.iastore, 1) := by decide +kernel
theorem dX12_type_35 : decode cX12_type 35 = .ok (.aload_n 0, 1) := by decide +kernel
theorem dX12_type_36 : decode cX12_type 36 = .ok (.dup, 1) := by decide +kernel
theorem dX12_type_37 : decode cX12_type 37 = .ok (.getfield 108, 3) := by decide +kernel
theorem dX12_type_40 : decode cX12_type 40 = .ok (.iconst 1, 1) := by decide +kernel
theorem dX12_type_41 : decode cX12_type 41 = .ok (.iadd, 1) := by decide +kernel
theorem dX12_type_42 : decode cX12_type 42 = .ok (.putfield 108, 3) := by decide +kernel
theorem dX12_type_45 : decode cX12_type 45 = .ok (.aload_n 0, 1) := by decide +kernel
theorem dX12_type_46 : decode cX12_type 46 = .ok (.getfield 108, 3) := by decide +kernel
theorem dX12_type_49 : decode cX12_type 49 = .ok (.ireturn, 1) := by decide +kernel
theorem dX12_wipe_0 : decode cX12_wipe 0 = .ok (.aload_n 0, 1) := by decide +kernel
theorem dX12_wipe_1 : decode cX12_wipe 1 = .ok (.getfield 108, 3) := by decide +kernel
theorem dX12_wipe_4 : decode cX12_wipe 4 = .ok (.istore_n 1, 1) := by decide +kernel
theorem dX12_wipe_5 : decode cX12_wipe 5 = .ok (.aload_n 0, 1) := by decide +kernel
theorem dX12_wipe_6 : decode cX12_wipe 6 = .ok (.iconst 0, 1) := by decide +kernel
theorem dX12_wipe_7 : decode cX12_wipe 7 = .ok (.putfield 108, 3) := by decide +kernel
theorem dX12_wipe_10 : decode cX12_wipe 10 = .ok (.iload_n 1, 1) := by decide +kernel
theorem dX12_wipe_11 : decode cX12_wipe 11 = .ok (.ireturn, 1) := by decide +kernel
theorem dX12_partsOf_0 : decode cX12_partsOf 0 = .ok (.iload_n 1, 1) := by decide +kernel
theorem dX12_partsOf_1 : decode cX12_partsOf 1 = .ok (.bipush 90, 2) := by decide +kernel
theorem dX12_partsOf_3 : decode cX12_partsOf 3 = .ok (.if_icmp .eq 9, 3) := by decide +kernel
theorem dX12_partsOf_6 : decode cX12_partsOf 6 = .ok (.iload_n 1, 1) := by decide +kernel
theorem dX12_partsOf_7 : decode cX12_partsOf 7 = .ok (.bipush 83, 2) := by decide +kernel
theorem dX12_partsOf_9 : decode cX12_partsOf 9 = .ok (.if_icmp .ne 15, 3) := by decide +kernel
theorem dX12_partsOf_12 : decode cX12_partsOf 12 = .ok (.iload_n 1, 1) := by decide +kernel
theorem dX12_partsOf_13 : decode cX12_partsOf 13 = .ok (.bipush 83, 2) := by decide +kernel
theorem dX12_partsOf_15 : decode cX12_partsOf 15 = .ok (.if_icmp .ne 7, 3) := by decide +kernel
theorem dX12_partsOf_18 : decode cX12_partsOf 18 = .ok (.iconst 1, 1) := by decide +kernel
theorem dX12_partsOf_19 : decode cX12_partsOf 19 = .ok (.goto 4, 3) := by decide +kernel
theorem dX12_partsOf_22 : decode cX12_partsOf 22 = .ok (.iconst 0, 1) := by decide +kernel
theorem dX12_partsOf_23 : decode cX12_partsOf 23 = .ok (.ireturn, 1) := by decide +kernel
theorem dX12_partsOf_24 : decode cX12_partsOf 24 = .ok (.iload_n 1, 1) := by decide +kernel
theorem dX12_partsOf_25 : decode cX12_partsOf 25 = .ok (.invokestatic 111, 3) := by decide +kernel
theorem dX12_partsOf_28 : decode cX12_partsOf 28 = .ok (.ifCond .eq 39, 3) := by decide +kernel
theorem dX12_partsOf_31 : decode cX12_partsOf 31 = .ok (.iload_n 1, 1) := by decide +kernel
theorem dX12_partsOf_32 : decode cX12_partsOf 32 = .ok (.bipush 120, 2) := by decide +kernel
theorem dX12_partsOf_34 : decode cX12_partsOf 34 = .ok (.if_icmp .ne 7, 3) := by decide +kernel
theorem dX12_partsOf_37 : decode cX12_partsOf 37 = .ok (.iload_n 2, 1) := by decide +kernel
theorem dX12_partsOf_38 : decode cX12_partsOf 38 = .ok (.goto 15, 3) := by decide +kernel
theorem dX12_partsOf_41 : decode cX12_partsOf 41 = .ok (.iload_n 1, 1) := by decide +kernel
theorem dX12_partsOf_42 : decode cX12_partsOf 42 = .ok (.bipush 121, 2) := by decide +kernel
theorem dX12_partsOf_44 : decode cX12_partsOf 44 = .ok (.if_icmp .ne 7, 3) := by decide +kernel
theorem dX12_partsOf_47 : decode cX12_partsOf 47 = .ok (.iload_n 3, 1) := by decide +kernel
theorem dX12_partsOf_48 : decode cX12_partsOf 48 = .ok (.goto 5, 3) := by decide +kernel
theorem dX12_partsOf_51 : decode cX12_partsOf 51 = .ok (.iload 4, 2) := by decide +kernel
theorem dX12_partsOf_53 : decode cX12_partsOf 53 = .ok (.istore 7, 2) := by decide +kernel
theorem dX12_partsOf_55 : decode cX12_partsOf 55 = .ok (.iload 7, 2) := by decide +kernel
theorem dX12_partsOf_57 : decode cX12_partsOf 57 = .ok (.ifCond .eq 7, 3) := by decide +kernel
theorem dX12_partsOf_60 : decode cX12_partsOf 60 = .ok (.iconst 0, 1) := by decide +kernel
theorem dX12_partsOf_61 : decode cX12_partsOf 61 = .ok (.goto 5, 3) := by decide +kernel
theorem dX12_partsOf_64 : decode cX12_partsOf 64 = .ok (.bipush (-9), 2) := by decide +kernel
theorem dX12_partsOf_66 : decode cX12_partsOf 66 = .ok (.ireturn, 1) := by decide +kernel
theorem dX12_partsOf_67 : decode cX12_partsOf 67 = .ok (.iload_n 1, 1) := by decide +kernel
theorem dX12_partsOf_68 : decode cX12_partsOf 68 = .ok (.bipush 97, 2) := by decide +kernel
theorem dX12_partsOf_70 : decode cX12_partsOf 70 = .ok (.bipush 97, 2) := by decide +kernel
theorem dX12_partsOf_72 : decode cX12_partsOf 72 = .ok (.iload 5, 2) := by decide +kernel
theorem dX12_partsOf_74 : decode cX12_partsOf 74 = .ok (.iadd, 1) := by decide +kernel
theorem dX12_partsOf_75 : decode cX12_partsOf 75 = .ok (.iconst 1, 1) := by decide +kernel
theorem dX12_partsOf_76 : decode cX12_partsOf 76 = .ok (.isub, 1) := by decide +kernel
theorem dX12_partsOf_77 : decode cX12_partsOf 77 = .ok (.invokestatic 96, 3) := by decide +kernel
theorem dX12_partsOf_80 : decode cX12_partsOf 80 = .ok (.ifCond .eq 13, 3) := by decide +kernel
theorem dX12_partsOf_83 : decode cX12_partsOf 83 = .ok (.aload_n 0, 1) := by decide +kernel
theorem dX12_partsOf_84 : decode cX12_partsOf 84 = .ok (.getfield 19, 3) := by decide +kernel
theorem dX12_partsOf_87 : decode cX12_partsOf 87 = .ok (.iload_n 1, 1) := by decide +kernel
theorem dX12_partsOf_88 : decode cX12_partsOf 88 = .ok (.bipush 97, 2) := by decide +kernel
theorem dX12_partsOf_90 : decode cX12_partsOf 90 = .ok (.isub, 1) := by decide +kernel
theorem dX12_partsOf_91 : decode cX12_partsOf 91 = .ok (.iaload, 1) := by decide +kernel
theorem dX12_partsOf_92 : decode cX12_partsOf 92 = .ok (.ireturn, 1) := by decide +kernel
theorem dX12_partsOf_93 : decode cX12_partsOf 93 = .ok (.iload 6, 2) := by decide +kernel
theorem dX12_partsOf_95 : decode cX12_partsOf 95 = .ok (.ifCond .eq 19, 3) := by decide +kernel
theorem dX12_partsOf_98 : decode cX12_partsOf 98 = .ok (.iload_n 1, 1) := by decide +kernel
theorem dX12_partsOf_99 : decode cX12_partsOf 99 = .ok (.bipush 97, 2) := by decide +kernel
theorem dX12_partsOf_101 : decode cX12_partsOf 101 = .ok (.iload 5, 2) := by decide +kernel
theorem dX12_partsOf_103 : decode cX12_partsOf 103 = .ok (.iadd, 1) := by decide +kernel
theorem dX12_partsOf_104 : decode cX12_partsOf 104 = .ok (.if_icmp .ne 10, 3) := by decide +kernel
theorem dX12_partsOf_107 : decode cX12_partsOf 107 = .ok (.aload_n 0, 1) := by decide +kernel
theorem dX12_partsOf_108 : decode cX12_partsOf 108 = .ok (.getfield 114, 3) := by decide +kernel
theorem dX12_partsOf_111 : decode cX12_partsOf 111 = .ok (.goto 5, 3) := by decide +kernel
theorem dX12_partsOf_114 : decode cX12_partsOf 114 = .ok (.bipush (-9), 2) := by decide +kernel
theorem dX12_partsOf_116 : decode cX12_partsOf 116 = .ok (.ireturn, 1) := by decide +kernel
theorem dX12_readsTerm_0 : decode cX12_readsTerm 0 = .ok (.aload_n 0, 1) := by decide +kernel
theorem dX12_readsTerm_1 : decode cX12_readsTerm 1 = .ok (.iconst 0, 1) := by decide +kernel
theorem dX12_readsTerm_2 : decode cX12_readsTerm 2 = .ok (.putfield 117, 3) := by decide +kernel
theorem dX12_readsTerm_5 : decode cX12_readsTerm 5 = .ok (.iconst 1, 1) := by decide +kernel
theorem dX12_readsTerm_6 : decode cX12_readsTerm 6 = .ok (.istore 7, 2) := by decide +kernel
theorem dX12_readsTerm_8 : decode cX12_readsTerm 8 = .ok (.iconst 0, 1) := by decide +kernel
theorem dX12_readsTerm_9 : decode cX12_readsTerm 9 = .ok (.istore 8, 2) := by decide +kernel
theorem dX12_readsTerm_11 : decode cX12_readsTerm 11 = .ok (.iload 7, 2) := by decide +kernel
theorem dX12_readsTerm_13 : decode cX12_readsTerm 13 = .ok (.ifCond .le 146, 3) := by decide +kernel
theorem dX12_readsTerm_16 : decode cX12_readsTerm 16 = .ok (.aload_n 0, 1) := by decide +kernel
theorem dX12_readsTerm_17 : decode cX12_readsTerm 17 = .ok (.getfield 120, 3) := by decide +kernel
theorem dX12_readsTerm_20 : decode cX12_readsTerm 20 = .ok (.aload_n 0, 1) := by decide +kernel
theorem dX12_readsTerm_21 : decode cX12_readsTerm 21 = .ok (.getfield 108, 3) := by decide +kernel
theorem dX12_readsTerm_24 : decode cX12_readsTerm 24 = .ok (.if_icmp .ne 5, 3) := by decide +kernel
theorem dX12_readsTerm_27 : decode cX12_readsTerm 27 = .ok (.iconst 0, 1) := by decide +kernel
theorem dX12_readsTerm_28 : decode cX12_readsTerm 28 = .ok (.ireturn, 1) := by decide +kernel
theorem dX12_readsTerm_29 : decode cX12_readsTerm 29 = .ok (.aload_n 0, 1) := by decide +kernel
theorem dX12_readsTerm_30 : decode cX12_readsTerm 30 = .ok (.getfield 16, 3) := by decide +kernel
theorem dX12_readsTerm_33 : decode cX12_readsTerm 33 = .ok (.aload_n 0, 1) := by decide +kernel
theorem dX12_readsTerm_34 : decode cX12_readsTerm 34 = .ok (.getfield 120, 3) := by decide +kernel
theorem dX12_readsTerm_37 : decode cX12_readsTerm 37 = .ok (.iaload, 1) := by decide +kernel
theorem dX12_readsTerm_38 : decode cX12_readsTerm 38 = .ok (.istore 9, 2) := by decide +kernel
theorem dX12_readsTerm_40 : decode cX12_readsTerm 40 = .ok (.iload 8, 2) := by decide +kernel
theorem dX12_readsTerm_42 : decode cX12_readsTerm 42 = .ok (.ifCond .eq 15, 3) := by decide +kernel
theorem dX12_readsTerm_45 : decode cX12_readsTerm 45 = .ok (.iload 9, 2) := by decide +kernel
theorem dX12_readsTerm_47 : decode cX12_readsTerm 47 = .ok (.bipush 120, 2) := by decide +kernel
theorem dX12_readsTerm_49 : decode cX12_readsTerm 49 = .ok (.if_icmp .eq 8, 3) := by decide +kernel
theorem dX12_readsTerm_52 : decode cX12_readsTerm 52 = .ok (.bipush (-9), 2) := by decide +kernel
theorem dX12_readsTerm_54 : decode cX12_readsTerm 54 = .ok (.goto 17, 3) := by decide +kernel
theorem dX12_readsTerm_57 : decode cX12_readsTerm 57 = .ok (.aload_n 0, 1) := by decide +kernel
theorem dX12_readsTerm_58 : decode cX12_readsTerm 58 = .ok (.iload 9, 2) := by decide +kernel
theorem dX12_readsTerm_60 : decode cX12_readsTerm 60 = .ok (.iload_n 2, 1) := by decide +kernel
theorem dX12_readsTerm_61 : decode cX12_readsTerm 61 = .ok (.iload_n 3, 1) := by decide +kernel
theorem dX12_readsTerm_62 : decode cX12_readsTerm 62 = .ok (.iload 4, 2) := by decide +kernel
theorem dX12_readsTerm_64 : decode cX12_readsTerm 64 = .ok (.iload 5, 2) := by decide +kernel
theorem dX12_readsTerm_66 : decode cX12_readsTerm 66 = .ok (.iload 6, 2) := by decide +kernel
theorem dX12_readsTerm_68 : decode cX12_readsTerm 68 = .ok (.invokevirtual 123, 3) := by decide +kernel
theorem dX12_readsTerm_71 : decode cX12_readsTerm 71 = .ok (.istore 10, 2) := by decide +kernel
theorem dX12_readsTerm_73 : decode cX12_readsTerm 73 = .ok (.iload 10, 2) := by decide +kernel
theorem dX12_readsTerm_75 : decode cX12_readsTerm 75 = .ok (.ifCond .lt 17, 3) := by decide +kernel
theorem dX12_readsTerm_78 : decode cX12_readsTerm 78 = .ok (.aload_n 0, 1) := by decide +kernel
theorem dX12_readsTerm_79 : decode cX12_readsTerm 79 = .ok (.getfield 117, 3) := by decide +kernel
theorem dX12_readsTerm_82 : decode cX12_readsTerm 82 = .ok (.iload 7, 2) := by decide +kernel
theorem dX12_readsTerm_84 : decode cX12_readsTerm 84 = .ok (.iadd, 1) := by decide +kernel
theorem dX12_readsTerm_85 : decode cX12_readsTerm 85 = .ok (.iload 10, 2) := by decide +kernel
theorem dX12_readsTerm_87 : decode cX12_readsTerm 87 = .ok (.iadd, 1) := by decide +kernel
theorem dX12_readsTerm_88 : decode cX12_readsTerm 88 = .ok (.iload_n 1, 1) := by decide +kernel
theorem dX12_readsTerm_89 : decode cX12_readsTerm 89 = .ok (.if_icmp .le 5, 3) := by decide +kernel
theorem dX12_readsTerm_92 : decode cX12_readsTerm 92 = .ok (.iconst 0, 1) := by decide +kernel
theorem dX12_readsTerm_93 : decode cX12_readsTerm 93 = .ok (.ireturn, 1) := by decide +kernel
theorem dX12_readsTerm_94 : decode cX12_readsTerm 94 = .ok (.aload_n 0, 1) := by decide +kernel
theorem dX12_readsTerm_95 : decode cX12_readsTerm 95 = .ok (.getfield 31, 3) := by decide +kernel
theorem dX12_readsTerm_98 : decode cX12_readsTerm 98 = .ok (.aload_n 0, 1) := by decide +kernel
theorem dX12_readsTerm_99 : decode cX12_readsTerm 99 = .ok (.getfield 117, 3) := by decide +kernel
theorem dX12_readsTerm_102 : decode cX12_readsTerm 102 = .ok (.iload 9, 2) := by decide +kernel
theorem dX12_readsTerm_104 : decode cX12_readsTerm 104 = .ok (.iastore, 1) := by decide +kernel
theorem dX12_readsTerm_105 : decode cX12_readsTerm 105 = .ok (.aload_n 0, 1) := by decide +kernel
theorem dX12_readsTerm_106 : decode cX12_readsTerm 106 = .ok (.dup, 1) := by decide +kernel
theorem dX12_readsTerm_107 : decode cX12_readsTerm 107 = .ok (.getfield 117, 3) := by decide +kernel
theorem dX12_readsTerm_110 : decode cX12_readsTerm 110 = .ok (.iconst 1, 1) := by decide +kernel
theorem dX12_readsTerm_111 : decode cX12_readsTerm 111 = .ok (.iadd, 1) := by decide +kernel
theorem dX12_readsTerm_112 : decode cX12_readsTerm 112 = .ok (.putfield 117, 3) := by decide +kernel
theorem dX12_readsTerm_115 : decode cX12_readsTerm 115 = .ok (.iload 7, 2) := by decide +kernel
theorem dX12_readsTerm_117 : decode cX12_readsTerm 117 = .ok (.iload 10, 2) := by decide +kernel
theorem dX12_readsTerm_119 : decode cX12_readsTerm 119 = .ok (.iconst 1, 1) := by decide +kernel
theorem dX12_readsTerm_120 : decode cX12_readsTerm 120 = .ok (.isub, 1) := by decide +kernel
theorem dX12_readsTerm_121 : decode cX12_readsTerm 121 = .ok (.iadd, 1) := by decide +kernel
theorem dX12_readsTerm_122 : decode cX12_readsTerm 122 = .ok (.istore 7, 2) := by decide +kernel
theorem dX12_readsTerm_124 : decode cX12_readsTerm 124 = .ok (.iload 6, 2) := by decide +kernel
theorem dX12_readsTerm_126 : decode cX12_readsTerm 126 = .ok (.ifCond .eq 17, 3) := by decide +kernel
theorem dX12_readsTerm_129 : decode cX12_readsTerm 129 = .ok (.iload 9, 2) := by decide +kernel
theorem dX12_readsTerm_131 : decode cX12_readsTerm 131 = .ok (.bipush 97, 2) := by decide +kernel
theorem dX12_readsTerm_133 : decode cX12_readsTerm 133 = .ok (.iload 5, 2) := by decide +kernel
theorem dX12_readsTerm_135 : decode cX12_readsTerm 135 = .ok (.iadd, 1) := by decide +kernel
theorem dX12_readsTerm_136 : decode cX12_readsTerm 136 = .ok (.if_icmp .ne 7, 3) := by decide +kernel
theorem dX12_readsTerm_139 : decode cX12_readsTerm 139 = .ok (.iconst 1, 1) := by decide +kernel
theorem dX12_readsTerm_140 : decode cX12_readsTerm 140 = .ok (.goto 4, 3) := by decide +kernel
theorem dX12_readsTerm_143 : decode cX12_readsTerm 143 = .ok (.iconst 0, 1) := by decide +kernel
theorem dX12_readsTerm_144 : decode cX12_readsTerm 144 = .ok (.istore 8, 2) := by decide +kernel
theorem dX12_readsTerm_146 : decode cX12_readsTerm 146 = .ok (.aload_n 0, 1) := by decide +kernel
theorem dX12_readsTerm_147 : decode cX12_readsTerm 147 = .ok (.dup, 1) := by decide +kernel
theorem dX12_readsTerm_148 : decode cX12_readsTerm 148 = .ok (.getfield 120, 3) := by decide +kernel
theorem dX12_readsTerm_151 : decode cX12_readsTerm 151 = .ok (.iconst 1, 1) := by decide +kernel
theorem dX12_readsTerm_152 : decode cX12_readsTerm 152 = .ok (.iadd, 1) := by decide +kernel
theorem dX12_readsTerm_153 : decode cX12_readsTerm 153 = .ok (.putfield 120, 3) := by decide +kernel
theorem dX12_readsTerm_156 : decode cX12_readsTerm 156 = .ok (.goto (-145), 3) := by decide +kernel
theorem dX12_readsTerm_159 : decode cX12_readsTerm 159 = .ok (.iconst 1, 1) := by decide +kernel
theorem dX12_readsTerm_160 : decode cX12_readsTerm 160 = .ok (.ireturn, 1) := by decide +kernel
theorem dX12_reads_0 : decode cX12_reads 0 = .ok (.aload_n 0, 1) := by decide +kernel
theorem dX12_reads_1 : decode cX12_reads 1 = .ok (.getfield 120, 3) := by decide +kernel
theorem dX12_reads_4 : decode cX12_reads 4 = .ok (.aload_n 0, 1) := by decide +kernel
theorem dX12_reads_5 : decode cX12_reads 5 = .ok (.getfield 108, 3) := by decide +kernel
theorem dX12_reads_8 : decode cX12_reads 8 = .ok (.if_icmp .eq 16, 3) := by decide +kernel
theorem dX12_reads_11 : decode cX12_reads 11 = .ok (.aload_n 0, 1) := by decide +kernel
theorem dX12_reads_12 : decode cX12_reads 12 = .ok (.getfield 16, 3) := by decide +kernel
theorem dX12_reads_15 : decode cX12_reads 15 = .ok (.aload_n 0, 1) := by decide +kernel
theorem dX12_reads_16 : decode cX12_reads 16 = .ok (.getfield 120, 3) := by decide +kernel
theorem dX12_reads_19 : decode cX12_reads 19 = .ok (.iaload, 1) := by decide +kernel
theorem dX12_reads_20 : decode cX12_reads 20 = .ok (.iload_n 1, 1) := by decide +kernel
theorem dX12_reads_21 : decode cX12_reads 21 = .ok (.if_icmp .eq 5, 3) := by decide +kernel
theorem dX12_reads_24 : decode cX12_reads 24 = .ok (.iconst 0, 1) := by decide +kernel
theorem dX12_reads_25 : decode cX12_reads 25 = .ok (.ireturn, 1) := by decide +kernel
theorem dX12_reads_26 : decode cX12_reads 26 = .ok (.aload_n 0, 1) := by decide +kernel
theorem dX12_reads_27 : decode cX12_reads 27 = .ok (.dup, 1) := by decide +kernel
theorem dX12_reads_28 : decode cX12_reads 28 = .ok (.getfield 120, 3) := by decide +kernel
theorem dX12_reads_31 : decode cX12_reads 31 = .ok (.iconst 1, 1) := by decide +kernel
theorem dX12_reads_32 : decode cX12_reads 32 = .ok (.iadd, 1) := by decide +kernel
theorem dX12_reads_33 : decode cX12_reads 33 = .ok (.putfield 120, 3) := by decide +kernel
theorem dX12_reads_36 : decode cX12_reads 36 = .ok (.iconst 1, 1) := by decide +kernel
theorem dX12_reads_37 : decode cX12_reads 37 = .ok (.ireturn, 1) := by decide +kernel
theorem dX12_keepsBody_0 : decode cX12_keepsBody 0 = .ok (.aload_n 0, 1) := by decide +kernel
theorem dX12_keepsBody_1 : decode cX12_keepsBody 1 = .ok (.getfield 28, 3) := by decide +kernel
theorem dX12_keepsBody_4 : decode cX12_keepsBody 4 = .ok (.iconst 3, 1) := by decide +kernel
theorem dX12_keepsBody_5 : decode cX12_keepsBody 5 = .ok (.iload_n 1, 1) := by decide +kernel
theorem dX12_keepsBody_6 : decode cX12_keepsBody 6 = .ok (.imul, 1) := by decide +kernel
theorem dX12_keepsBody_7 : decode cX12_keepsBody 7 = .ok (.iload_n 2, 1) := by decide +kernel
theorem dX12_keepsBody_8 : decode cX12_keepsBody 8 = .ok (.iadd, 1) := by decide +kernel
theorem dX12_keepsBody_9 : decode cX12_keepsBody 9 = .ok (.aload_n 0, 1) := by decide +kernel
theorem dX12_keepsBody_10 : decode cX12_keepsBody 10 = .ok (.getfield 117, 3) := by decide +kernel
theorem dX12_keepsBody_13 : decode cX12_keepsBody 13 = .ok (.iastore, 1) := by decide +kernel
theorem dX12_keepsBody_14 : decode cX12_keepsBody 14 = .ok (.iconst 0, 1) := by decide +kernel
theorem dX12_keepsBody_15 : decode cX12_keepsBody 15 = .ok (.istore_n 3, 1) := by decide +kernel
theorem dX12_keepsBody_16 : decode cX12_keepsBody 16 = .ok (.iload_n 3, 1) := by decide +kernel
theorem dX12_keepsBody_17 : decode cX12_keepsBody 17 = .ok (.aload_n 0, 1) := by decide +kernel
theorem dX12_keepsBody_18 : decode cX12_keepsBody 18 = .ok (.getfield 117, 3) := by decide +kernel
theorem dX12_keepsBody_21 : decode cX12_keepsBody 21 = .ok (.if_icmp .ge 30, 3) := by decide +kernel
theorem dX12_keepsBody_24 : decode cX12_keepsBody 24 = .ok (.aload_n 0, 1) := by decide +kernel
theorem dX12_keepsBody_25 : decode cX12_keepsBody 25 = .ok (.getfield 25, 3) := by decide +kernel
theorem dX12_keepsBody_28 : decode cX12_keepsBody 28 = .ok (.bipush 10, 2) := by decide +kernel
theorem dX12_keepsBody_30 : decode cX12_keepsBody 30 = .ok (.iconst 3, 1) := by decide +kernel
theorem dX12_keepsBody_31 : decode cX12_keepsBody 31 = .ok (.iload_n 1, 1) := by decide +kernel
theorem dX12_keepsBody_32 : decode cX12_keepsBody 32 = .ok (.imul, 1) := by decide +kernel
theorem dX12_keepsBody_33 : decode cX12_keepsBody 33 = .ok (.iload_n 2, 1) := by decide +kernel
theorem dX12_keepsBody_34 : decode cX12_keepsBody 34 = .ok (.iadd, 1) := by decide +kernel
theorem dX12_keepsBody_35 : decode cX12_keepsBody 35 = .ok (.imul, 1) := by decide +kernel
theorem dX12_keepsBody_36 : decode cX12_keepsBody 36 = .ok (.iload_n 3, 1) := by decide +kernel
theorem dX12_keepsBody_37 : decode cX12_keepsBody 37 = .ok (.iadd, 1) := by decide +kernel
theorem dX12_keepsBody_38 : decode cX12_keepsBody 38 = .ok (.aload_n 0, 1) := by decide +kernel
theorem dX12_keepsBody_39 : decode cX12_keepsBody 39 = .ok (.getfield 31, 3) := by decide +kernel
theorem dX12_keepsBody_42 : decode cX12_keepsBody 42 = .ok (.iload_n 3, 1) := by decide +kernel
theorem dX12_keepsBody_43 : decode cX12_keepsBody 43 = .ok (.iaload, 1) := by decide +kernel
theorem dX12_keepsBody_44 : decode cX12_keepsBody 44 = .ok (.iastore, 1) := by decide +kernel
theorem dX12_keepsBody_45 : decode cX12_keepsBody 45 = .ok (.iinc 3 1, 3) := by decide +kernel
theorem dX12_keepsBody_48 : decode cX12_keepsBody 48 = .ok (.goto (-32), 3) := by decide +kernel
theorem dX12_keepsBody_51 : decode cX12_keepsBody 51 = .ok (.return_, 1) := by decide +kernel
theorem dX12_readsFunction_0 : decode cX12_readsFunction 0 = .ok (.aload_n 0, 1) := by decide +kernel
theorem dX12_readsFunction_1 : decode cX12_readsFunction 1 = .ok (.getfield 114, 3) := by decide +kernel
theorem dX12_readsFunction_4 : decode cX12_readsFunction 4 = .ok (.iconst 2, 1) := by decide +kernel
theorem dX12_readsFunction_5 : decode cX12_readsFunction 5 = .ok (.if_icmp .ne 7, 3) := by decide +kernel
theorem dX12_readsFunction_8 : decode cX12_readsFunction 8 = .ok (.iconst 1, 1) := by decide +kernel
theorem dX12_readsFunction_9 : decode cX12_readsFunction 9 = .ok (.goto 4, 3) := by decide +kernel
theorem dX12_readsFunction_12 : decode cX12_readsFunction 12 = .ok (.iconst 0, 1) := by decide +kernel
theorem dX12_readsFunction_13 : decode cX12_readsFunction 13 = .ok (.istore_n 3, 1) := by decide +kernel
theorem dX12_readsFunction_14 : decode cX12_readsFunction 14 = .ok (.iconst 0, 1) := by decide +kernel
theorem dX12_readsFunction_15 : decode cX12_readsFunction 15 = .ok (.istore 4, 2) := by decide +kernel
theorem dX12_readsFunction_17 : decode cX12_readsFunction 17 = .ok (.iload 4, 2) := by decide +kernel
theorem dX12_readsFunction_19 : decode cX12_readsFunction 19 = .ok (.iload_n 2, 1) := by decide +kernel
theorem dX12_readsFunction_20 : decode cX12_readsFunction 20 = .ok (.if_icmp .ge 41, 3) := by decide +kernel
theorem dX12_readsFunction_23 : decode cX12_readsFunction 23 = .ok (.aload_n 0, 1) := by decide +kernel
theorem dX12_readsFunction_24 : decode cX12_readsFunction 24 = .ok (.bipush 10, 2) := by decide +kernel
theorem dX12_readsFunction_26 : decode cX12_readsFunction 26 = .ok (.iconst 0, 1) := by decide +kernel
theorem dX12_readsFunction_27 : decode cX12_readsFunction 27 = .ok (.iload_n 3, 1) := by decide +kernel
theorem dX12_readsFunction_28 : decode cX12_readsFunction 28 = .ok (.iconst 0, 1) := by decide +kernel
theorem dX12_readsFunction_29 : decode cX12_readsFunction 29 = .ok (.iload_n 1, 1) := by decide +kernel
theorem dX12_readsFunction_30 : decode cX12_readsFunction 30 = .ok (.iconst 0, 1) := by decide +kernel
theorem dX12_readsFunction_31 : decode cX12_readsFunction 31 = .ok (.invokevirtual 127, 3) := by decide +kernel
theorem dX12_readsFunction_34 : decode cX12_readsFunction 34 = .ok (.ifCond .eq 12, 3) := by decide +kernel
theorem dX12_readsFunction_37 : decode cX12_readsFunction 37 = .ok (.aload_n 0, 1) := by decide +kernel
theorem dX12_readsFunction_38 : decode cX12_readsFunction 38 = .ok (.bipush 59, 2) := by decide +kernel
theorem dX12_readsFunction_40 : decode cX12_readsFunction 40 = .ok (.invokevirtual 131, 3) := by decide +kernel
theorem dX12_readsFunction_43 : decode cX12_readsFunction 43 = .ok (.ifCond .ne 5, 3) := by decide +kernel
theorem dX12_readsFunction_46 : decode cX12_readsFunction 46 = .ok (.iconst 0, 1) := by decide +kernel
theorem dX12_readsFunction_47 : decode cX12_readsFunction 47 = .ok (.ireturn, 1) := by decide +kernel
theorem dX12_readsFunction_48 : decode cX12_readsFunction 48 = .ok (.aload_n 0, 1) := by decide +kernel
theorem dX12_readsFunction_49 : decode cX12_readsFunction 49 = .ok (.iload_n 1, 1) := by decide +kernel
theorem dX12_readsFunction_50 : decode cX12_readsFunction 50 = .ok (.iload 4, 2) := by decide +kernel
theorem dX12_readsFunction_52 : decode cX12_readsFunction 52 = .ok (.invokevirtual 133, 3) := by decide +kernel
theorem dX12_readsFunction_55 : decode cX12_readsFunction 55 = .ok (.iinc 4 1, 3) := by decide +kernel
theorem dX12_readsFunction_58 : decode cX12_readsFunction 58 = .ok (.goto (-41), 3) := by decide +kernel
theorem dX12_readsFunction_61 : decode cX12_readsFunction 61 = .ok (.aload_n 0, 1) := by decide +kernel
theorem dX12_readsFunction_62 : decode cX12_readsFunction 62 = .ok (.bipush 10, 2) := by decide +kernel
theorem dX12_readsFunction_64 : decode cX12_readsFunction 64 = .ok (.iconst 1, 1) := by decide +kernel
theorem dX12_readsFunction_65 : decode cX12_readsFunction 65 = .ok (.iload_n 3, 1) := by decide +kernel
theorem dX12_readsFunction_66 : decode cX12_readsFunction 66 = .ok (.iconst 0, 1) := by decide +kernel
theorem dX12_readsFunction_67 : decode cX12_readsFunction 67 = .ok (.iload_n 1, 1) := by decide +kernel
theorem dX12_readsFunction_68 : decode cX12_readsFunction 68 = .ok (.iconst 1, 1) := by decide +kernel
theorem dX12_readsFunction_69 : decode cX12_readsFunction 69 = .ok (.invokevirtual 127, 3) := by decide +kernel
theorem dX12_readsFunction_72 : decode cX12_readsFunction 72 = .ok (.ifCond .ne 5, 3) := by decide +kernel
theorem dX12_readsFunction_75 : decode cX12_readsFunction 75 = .ok (.iconst 0, 1) := by decide +kernel
theorem dX12_readsFunction_76 : decode cX12_readsFunction 76 = .ok (.ireturn, 1) := by decide +kernel
theorem dX12_readsFunction_77 : decode cX12_readsFunction 77 = .ok (.aload_n 0, 1) := by decide +kernel
theorem dX12_readsFunction_78 : decode cX12_readsFunction 78 = .ok (.iload_n 1, 1) := by decide +kernel
theorem dX12_readsFunction_79 : decode cX12_readsFunction 79 = .ok (.iconst 2, 1) := by decide +kernel
theorem dX12_readsFunction_80 : decode cX12_readsFunction 80 = .ok (.invokevirtual 133, 3) := by decide +kernel
theorem dX12_readsFunction_83 : decode cX12_readsFunction 83 = .ok (.aload_n 0, 1) := by decide +kernel
theorem dX12_readsFunction_84 : decode cX12_readsFunction 84 = .ok (.getfield 120, 3) := by decide +kernel
theorem dX12_readsFunction_87 : decode cX12_readsFunction 87 = .ok (.aload_n 0, 1) := by decide +kernel
theorem dX12_readsFunction_88 : decode cX12_readsFunction 88 = .ok (.getfield 108, 3) := by decide +kernel
theorem dX12_readsFunction_91 : decode cX12_readsFunction 91 = .ok (.if_icmp .ne 7, 3) := by decide +kernel
theorem dX12_readsFunction_94 : decode cX12_readsFunction 94 = .ok (.iconst 1, 1) := by decide +kernel
theorem dX12_readsFunction_95 : decode cX12_readsFunction 95 = .ok (.goto 4, 3) := by decide +kernel
theorem dX12_readsFunction_98 : decode cX12_readsFunction 98 = .ok (.iconst 0, 1) := by decide +kernel
theorem dX12_readsFunction_99 : decode cX12_readsFunction 99 = .ok (.ireturn, 1) := by decide +kernel
theorem dX12_function_0 : decode cX12_function 0 = .ok (.iload_n 1, 1) := by decide +kernel
theorem dX12_function_1 : decode cX12_function 1 = .ok (.iconst 1, 1) := by decide +kernel
theorem dX12_function_2 : decode cX12_function 2 = .ok (.iconst 2, 1) := by decide +kernel
theorem dX12_function_3 : decode cX12_function 3 = .ok (.invokestatic 96, 3) := by decide +kernel
theorem dX12_function_6 : decode cX12_function 6 = .ok (.ifCond .eq 12, 3) := by decide +kernel
theorem dX12_function_9 : decode cX12_function 9 = .ok (.iload_n 2, 1) := by decide +kernel
theorem dX12_function_10 : decode cX12_function 10 = .ok (.iconst 1, 1) := by decide +kernel
theorem dX12_function_11 : decode cX12_function 11 = .ok (.iconst 2, 1) := by decide +kernel
theorem dX12_function_12 : decode cX12_function 12 = .ok (.invokestatic 96, 3) := by decide +kernel
theorem dX12_function_15 : decode cX12_function 15 = .ok (.ifCond .ne 6, 3) := by decide +kernel
theorem dX12_function_18 : decode cX12_function 18 = .ok (.bipush (-2), 2) := by decide +kernel
theorem dX12_function_20 : decode cX12_function 20 = .ok (.ireturn, 1) := by decide +kernel
theorem dX12_function_21 : decode cX12_function 21 = .ok (.aload_n 0, 1) := by decide +kernel
theorem dX12_function_22 : decode cX12_function 22 = .ok (.getfield 137, 3) := by decide +kernel
theorem dX12_function_25 : decode cX12_function 25 = .ok (.bipush 6, 2) := by decide +kernel
theorem dX12_function_27 : decode cX12_function 27 = .ok (.if_icmp .ne 6, 3) := by decide +kernel
theorem dX12_function_30 : decode cX12_function 30 = .ok (.bipush (-4), 2) := by decide +kernel
theorem dX12_function_32 : decode cX12_function 32 = .ok (.ireturn, 1) := by decide +kernel
theorem dX12_function_33 : decode cX12_function 33 = .ok (.aload_n 0, 1) := by decide +kernel
theorem dX12_function_34 : decode cX12_function 34 = .ok (.iconst 0, 1) := by decide +kernel
theorem dX12_function_35 : decode cX12_function 35 = .ok (.putfield 120, 3) := by decide +kernel
theorem dX12_function_38 : decode cX12_function 38 = .ok (.aload_n 0, 1) := by decide +kernel
theorem dX12_function_39 : decode cX12_function 39 = .ok (.iload_n 1, 1) := by decide +kernel
theorem dX12_function_40 : decode cX12_function 40 = .ok (.putfield 114, 3) := by decide +kernel
theorem dX12_function_43 : decode cX12_function 43 = .ok (.aload_n 0, 1) := by decide +kernel
theorem dX12_function_44 : decode cX12_function 44 = .ok (.aload_n 0, 1) := by decide +kernel
theorem dX12_function_45 : decode cX12_function 45 = .ok (.getfield 137, 3) := by decide +kernel
theorem dX12_function_48 : decode cX12_function 48 = .ok (.iload_n 2, 1) := by decide +kernel
theorem dX12_function_49 : decode cX12_function 49 = .ok (.invokevirtual 140, 3) := by decide +kernel
theorem dX12_function_52 : decode cX12_function 52 = .ok (.ifCond .ne 11, 3) := by decide +kernel
theorem dX12_function_55 : decode cX12_function 55 = .ok (.bipush (-100), 2) := by decide +kernel
theorem dX12_function_57 : decode cX12_function 57 = .ok (.aload_n 0, 1) := by decide +kernel
theorem dX12_function_58 : decode cX12_function 58 = .ok (.getfield 120, 3) := by decide +kernel
theorem dX12_function_61 : decode cX12_function 61 = .ok (.isub, 1) := by decide +kernel
theorem dX12_function_62 : decode cX12_function 62 = .ok (.ireturn, 1) := by decide +kernel
theorem dX12_function_63 : decode cX12_function 63 = .ok (.aload_n 0, 1) := by decide +kernel
theorem dX12_function_64 : decode cX12_function 64 = .ok (.getfield 19, 3) := by decide +kernel
theorem dX12_function_67 : decode cX12_function 67 = .ok (.aload_n 0, 1) := by decide +kernel
theorem dX12_function_68 : decode cX12_function 68 = .ok (.getfield 137, 3) := by decide +kernel
theorem dX12_function_71 : decode cX12_function 71 = .ok (.iload_n 1, 1) := by decide +kernel
theorem dX12_function_72 : decode cX12_function 72 = .ok (.iastore, 1) := by decide +kernel
theorem dX12_function_73 : decode cX12_function 73 = .ok (.aload_n 0, 1) := by decide +kernel
theorem dX12_function_74 : decode cX12_function 74 = .ok (.getfield 22, 3) := by decide +kernel
theorem dX12_function_77 : decode cX12_function 77 = .ok (.aload_n 0, 1) := by decide +kernel
theorem dX12_function_78 : decode cX12_function 78 = .ok (.getfield 137, 3) := by decide +kernel
theorem dX12_function_81 : decode cX12_function 81 = .ok (.iload_n 2, 1) := by decide +kernel
theorem dX12_function_82 : decode cX12_function 82 = .ok (.iastore, 1) := by decide +kernel
theorem dX12_function_83 : decode cX12_function 83 = .ok (.aload_n 0, 1) := by decide +kernel
theorem dX12_function_84 : decode cX12_function 84 = .ok (.dup, 1) := by decide +kernel
theorem dX12_function_85 : decode cX12_function 85 = .ok (.getfield 137, 3) := by decide +kernel
theorem dX12_function_88 : decode cX12_function 88 = .ok (.iconst 1, 1) := by decide +kernel
theorem dX12_function_89 : decode cX12_function 89 = .ok (.iadd, 1) := by decide +kernel
theorem dX12_function_90 : decode cX12_function 90 = .ok (.putfield 137, 3) := by decide +kernel
theorem dX12_function_93 : decode cX12_function 93 = .ok (.aload_n 0, 1) := by decide +kernel
theorem dX12_function_94 : decode cX12_function 94 = .ok (.getfield 137, 3) := by decide +kernel
theorem dX12_function_97 : decode cX12_function 97 = .ok (.iconst 1, 1) := by decide +kernel
theorem dX12_function_98 : decode cX12_function 98 = .ok (.isub, 1) := by decide +kernel
theorem dX12_function_99 : decode cX12_function 99 = .ok (.ireturn, 1) := by decide +kernel
theorem dX12_isFunction_0 : decode cX12_isFunction 0 = .ok (.iload_n 1, 1) := by decide +kernel
theorem dX12_isFunction_1 : decode cX12_isFunction 1 = .ok (.iconst 0, 1) := by decide +kernel
theorem dX12_isFunction_2 : decode cX12_isFunction 2 = .ok (.aload_n 0, 1) := by decide +kernel
theorem dX12_isFunction_3 : decode cX12_isFunction 3 = .ok (.getfield 137, 3) := by decide +kernel
theorem dX12_isFunction_6 : decode cX12_isFunction 6 = .ok (.iconst 1, 1) := by decide +kernel
theorem dX12_isFunction_7 : decode cX12_isFunction 7 = .ok (.isub, 1) := by decide +kernel
theorem dX12_isFunction_8 : decode cX12_isFunction 8 = .ok (.invokestatic 96, 3) := by decide +kernel
theorem dX12_isFunction_11 : decode cX12_isFunction 11 = .ok (.ireturn, 1) := by decide +kernel
theorem dX12_bodyLong_0 : decode cX12_bodyLong 0 = .ok (.iload_n 2, 1) := by decide +kernel
theorem dX12_bodyLong_1 : decode cX12_bodyLong 1 = .ok (.iconst 1, 1) := by decide +kernel
theorem dX12_bodyLong_2 : decode cX12_bodyLong 2 = .ok (.if_icmp .ne 18, 3) := by decide +kernel
theorem dX12_bodyLong_5 : decode cX12_bodyLong 5 = .ok (.aload_n 0, 1) := by decide +kernel
theorem dX12_bodyLong_6 : decode cX12_bodyLong 6 = .ok (.getfield 22, 3) := by decide +kernel
theorem dX12_bodyLong_9 : decode cX12_bodyLong 9 = .ok (.iload_n 1, 1) := by decide +kernel
theorem dX12_bodyLong_10 : decode cX12_bodyLong 10 = .ok (.iaload, 1) := by decide +kernel
theorem dX12_bodyLong_11 : decode cX12_bodyLong 11 = .ok (.iconst 1, 1) := by decide +kernel
theorem dX12_bodyLong_12 : decode cX12_bodyLong 12 = .ok (.if_icmp .ne 8, 3) := by decide +kernel
theorem dX12_bodyLong_15 : decode cX12_bodyLong 15 = .ok (.bipush (-9), 2) := by decide +kernel
theorem dX12_bodyLong_17 : decode cX12_bodyLong 17 = .ok (.goto 13, 3) := by decide +kernel
theorem dX12_bodyLong_20 : decode cX12_bodyLong 20 = .ok (.aload_n 0, 1) := by decide +kernel
theorem dX12_bodyLong_21 : decode cX12_bodyLong 21 = .ok (.getfield 28, 3) := by decide +kernel
theorem dX12_bodyLong_24 : decode cX12_bodyLong 24 = .ok (.iconst 3, 1) := by decide +kernel
theorem dX12_bodyLong_25 : decode cX12_bodyLong 25 = .ok (.iload_n 1, 1) := by decide +kernel
theorem dX12_bodyLong_26 : decode cX12_bodyLong 26 = .ok (.imul, 1) := by decide +kernel
theorem dX12_bodyLong_27 : decode cX12_bodyLong 27 = .ok (.iload_n 2, 1) := by decide +kernel
theorem dX12_bodyLong_28 : decode cX12_bodyLong 28 = .ok (.iadd, 1) := by decide +kernel
theorem dX12_bodyLong_29 : decode cX12_bodyLong 29 = .ok (.iaload, 1) := by decide +kernel
theorem dX12_bodyLong_30 : decode cX12_bodyLong 30 = .ok (.ireturn, 1) := by decide +kernel
theorem dX12_ofFunction_0 : decode cX12_ofFunction 0 = .ok (.aload_n 0, 1) := by decide +kernel
theorem dX12_ofFunction_1 : decode cX12_ofFunction 1 = .ok (.iload_n 1, 1) := by decide +kernel
theorem dX12_ofFunction_2 : decode cX12_ofFunction 2 = .ok (.invokevirtual 144, 3) := by decide +kernel
theorem dX12_ofFunction_5 : decode cX12_ofFunction 5 = .ok (.ifCond .ne 5, 3) := by decide +kernel
theorem dX12_ofFunction_8 : decode cX12_ofFunction 8 = .ok (.iconst (-1), 1) := by decide +kernel
theorem dX12_ofFunction_9 : decode cX12_ofFunction 9 = .ok (.ireturn, 1) := by decide +kernel
theorem dX12_ofFunction_10 : decode cX12_ofFunction 10 = .ok (.iload_n 2, 1) := by decide +kernel
theorem dX12_ofFunction_11 : decode cX12_ofFunction 11 = .ok (.tableswitch 56 0 4 #[33, 40, 47, 47, 47], 33) := by decide +kernel
theorem dX12_ofFunction_44 : decode cX12_ofFunction 44 = .ok (.aload_n 0, 1) := by decide +kernel
theorem dX12_ofFunction_45 : decode cX12_ofFunction 45 = .ok (.getfield 19, 3) := by decide +kernel
theorem dX12_ofFunction_48 : decode cX12_ofFunction 48 = .ok (.iload_n 1, 1) := by decide +kernel
theorem dX12_ofFunction_49 : decode cX12_ofFunction 49 = .ok (.iaload, 1) := by decide +kernel
theorem dX12_ofFunction_50 : decode cX12_ofFunction 50 = .ok (.ireturn, 1) := by decide +kernel
theorem dX12_ofFunction_51 : decode cX12_ofFunction 51 = .ok (.aload_n 0, 1) := by decide +kernel
theorem dX12_ofFunction_52 : decode cX12_ofFunction 52 = .ok (.getfield 22, 3) := by decide +kernel
theorem dX12_ofFunction_55 : decode cX12_ofFunction 55 = .ok (.iload_n 1, 1) := by decide +kernel
theorem dX12_ofFunction_56 : decode cX12_ofFunction 56 = .ok (.iaload, 1) := by decide +kernel
theorem dX12_ofFunction_57 : decode cX12_ofFunction 57 = .ok (.ireturn, 1) := by decide +kernel
theorem dX12_ofFunction_58 : decode cX12_ofFunction 58 = .ok (.aload_n 0, 1) := by decide +kernel
theorem dX12_ofFunction_59 : decode cX12_ofFunction 59 = .ok (.iload_n 1, 1) := by decide +kernel
theorem dX12_ofFunction_60 : decode cX12_ofFunction 60 = .ok (.iload_n 2, 1) := by decide +kernel
theorem dX12_ofFunction_61 : decode cX12_ofFunction 61 = .ok (.iconst 2, 1) := by decide +kernel
theorem dX12_ofFunction_62 : decode cX12_ofFunction 62 = .ok (.isub, 1) := by decide +kernel
theorem dX12_ofFunction_63 : decode cX12_ofFunction 63 = .ok (.invokevirtual 147, 3) := by decide +kernel
theorem dX12_ofFunction_66 : decode cX12_ofFunction 66 = .ok (.ireturn, 1) := by decide +kernel
theorem dX12_ofFunction_67 : decode cX12_ofFunction 67 = .ok (.bipush (-2), 2) := by decide +kernel
theorem dX12_ofFunction_69 : decode cX12_ofFunction 69 = .ok (.ireturn, 1) := by decide +kernel
theorem dX12_body_0 : decode cX12_body 0 = .ok (.aload_n 0, 1) := by decide +kernel
theorem dX12_body_1 : decode cX12_body 1 = .ok (.iload_n 1, 1) := by decide +kernel
theorem dX12_body_2 : decode cX12_body 2 = .ok (.invokevirtual 144, 3) := by decide +kernel
theorem dX12_body_5 : decode cX12_body 5 = .ok (.ifCond .ne 5, 3) := by decide +kernel
theorem dX12_body_8 : decode cX12_body 8 = .ok (.iconst (-1), 1) := by decide +kernel
theorem dX12_body_9 : decode cX12_body 9 = .ok (.ireturn, 1) := by decide +kernel
theorem dX12_body_10 : decode cX12_body 10 = .ok (.iload_n 2, 1) := by decide +kernel
theorem dX12_body_11 : decode cX12_body 11 = .ok (.iconst 0, 1) := by decide +kernel
theorem dX12_body_12 : decode cX12_body 12 = .ok (.iconst 2, 1) := by decide +kernel
theorem dX12_body_13 : decode cX12_body 13 = .ok (.invokestatic 96, 3) := by decide +kernel
theorem dX12_body_16 : decode cX12_body 16 = .ok (.ifCond .eq 13, 3) := by decide +kernel
theorem dX12_body_19 : decode cX12_body 19 = .ok (.iload_n 3, 1) := by decide +kernel
theorem dX12_body_20 : decode cX12_body 20 = .ok (.iconst 0, 1) := by decide +kernel
theorem dX12_body_21 : decode cX12_body 21 = .ok (.bipush 9, 2) := by decide +kernel
theorem dX12_body_23 : decode cX12_body 23 = .ok (.invokestatic 96, 3) := by decide +kernel
theorem dX12_body_26 : decode cX12_body 26 = .ok (.ifCond .ne 6, 3) := by decide +kernel
theorem dX12_body_29 : decode cX12_body 29 = .ok (.bipush (-2), 2) := by decide +kernel
theorem dX12_body_31 : decode cX12_body 31 = .ok (.ireturn, 1) := by decide +kernel
theorem dX12_body_32 : decode cX12_body 32 = .ok (.iload_n 3, 1) := by decide +kernel
theorem dX12_body_33 : decode cX12_body 33 = .ok (.aload_n 0, 1) := by decide +kernel
theorem dX12_body_34 : decode cX12_body 34 = .ok (.iload_n 1, 1) := by decide +kernel
theorem dX12_body_35 : decode cX12_body 35 = .ok (.iload_n 2, 1) := by decide +kernel
theorem dX12_body_36 : decode cX12_body 36 = .ok (.invokevirtual 147, 3) := by decide +kernel
theorem dX12_body_39 : decode cX12_body 39 = .ok (.if_icmp .ge 21, 3) := by decide +kernel
theorem dX12_body_42 : decode cX12_body 42 = .ok (.aload_n 0, 1) := by decide +kernel
theorem dX12_body_43 : decode cX12_body 43 = .ok (.getfield 25, 3) := by decide +kernel
theorem dX12_body_46 : decode cX12_body 46 = .ok (.bipush 10, 2) := by decide +kernel
theorem dX12_body_48 : decode cX12_body 48 = .ok (.iconst 3, 1) := by decide +kernel
theorem dX12_body_49 : decode cX12_body 49 = .ok (.iload_n 1, 1) := by decide +kernel
theorem dX12_body_50 : decode cX12_body 50 = .ok (.imul, 1) := by decide +kernel
theorem dX12_body_51 : decode cX12_body 51 = .ok (.iload_n 2, 1) := by decide +kernel
theorem dX12_body_52 : decode cX12_body 52 = .ok (.iadd, 1) := by decide +kernel
theorem dX12_body_53 : decode cX12_body 53 = .ok (.imul, 1) := by decide +kernel
theorem dX12_body_54 : decode cX12_body 54 = .ok (.iload_n 3, 1) := by decide +kernel
theorem dX12_body_55 : decode cX12_body 55 = .ok (.iadd, 1) := by decide +kernel
theorem dX12_body_56 : decode cX12_body 56 = .ok (.iaload, 1) := by decide +kernel
theorem dX12_body_57 : decode cX12_body 57 = .ok (.goto 5, 3) := by decide +kernel
theorem dX12_body_60 : decode cX12_body 60 = .ok (.bipush (-9), 2) := by decide +kernel
theorem dX12_body_62 : decode cX12_body 62 = .ok (.ireturn, 1) := by decide +kernel
theorem dX12_keepsSide_0 : decode cX12_keepsSide 0 = .ok (.aload_n 0, 1) := by decide +kernel
theorem dX12_keepsSide_1 : decode cX12_keepsSide 1 = .ok (.getfield 13, 3) := by decide +kernel
theorem dX12_keepsSide_4 : decode cX12_keepsSide 4 = .ok (.iload_n 1, 1) := by decide +kernel
theorem dX12_keepsSide_5 : decode cX12_keepsSide 5 = .ok (.iconst 0, 1) := by decide +kernel
theorem dX12_keepsSide_6 : decode cX12_keepsSide 6 = .ok (.iastore, 1) := by decide +kernel
theorem dX12_keepsSide_7 : decode cX12_keepsSide 7 = .ok (.iconst 0, 1) := by decide +kernel
theorem dX12_keepsSide_8 : decode cX12_keepsSide 8 = .ok (.istore_n 2, 1) := by decide +kernel
theorem dX12_keepsSide_9 : decode cX12_keepsSide 9 = .ok (.iload_n 2, 1) := by decide +kernel
theorem dX12_keepsSide_10 : decode cX12_keepsSide 10 = .ok (.aload_n 0, 1) := by decide +kernel
theorem dX12_keepsSide_11 : decode cX12_keepsSide 11 = .ok (.getfield 117, 3) := by decide +kernel
theorem dX12_keepsSide_14 : decode cX12_keepsSide 14 = .ok (.if_icmp .ge 20, 3) := by decide +kernel
theorem dX12_keepsSide_17 : decode cX12_keepsSide 17 = .ok (.aload_n 0, 1) := by decide +kernel
theorem dX12_keepsSide_18 : decode cX12_keepsSide 18 = .ok (.iload_n 1, 1) := by decide +kernel
theorem dX12_keepsSide_19 : decode cX12_keepsSide 19 = .ok (.aload_n 0, 1) := by decide +kernel
theorem dX12_keepsSide_20 : decode cX12_keepsSide 20 = .ok (.getfield 31, 3) := by decide +kernel
theorem dX12_keepsSide_23 : decode cX12_keepsSide 23 = .ok (.iload_n 2, 1) := by decide +kernel
theorem dX12_keepsSide_24 : decode cX12_keepsSide 24 = .ok (.iaload, 1) := by decide +kernel
theorem dX12_keepsSide_25 : decode cX12_keepsSide 25 = .ok (.invokevirtual 150, 3) := by decide +kernel
theorem dX12_keepsSide_28 : decode cX12_keepsSide 28 = .ok (.iinc 2 1, 3) := by decide +kernel
theorem dX12_keepsSide_31 : decode cX12_keepsSide 31 = .ok (.goto (-22), 3) := by decide +kernel
theorem dX12_keepsSide_34 : decode cX12_keepsSide 34 = .ok (.return_, 1) := by decide +kernel
theorem dX12_readsClaim_0 : decode cX12_readsClaim 0 = .ok (.aload_n 0, 1) := by decide +kernel
theorem dX12_readsClaim_1 : decode cX12_readsClaim 1 = .ok (.bipush 20, 2) := by decide +kernel
theorem dX12_readsClaim_3 : decode cX12_readsClaim 3 = .ok (.iconst 1, 1) := by decide +kernel
theorem dX12_readsClaim_4 : decode cX12_readsClaim 4 = .ok (.iconst 1, 1) := by decide +kernel
theorem dX12_readsClaim_5 : decode cX12_readsClaim 5 = .ok (.iconst 1, 1) := by decide +kernel
theorem dX12_readsClaim_6 : decode cX12_readsClaim 6 = .ok (.aload_n 0, 1) := by decide +kernel
theorem dX12_readsClaim_7 : decode cX12_readsClaim 7 = .ok (.getfield 137, 3) := by decide +kernel
theorem dX12_readsClaim_10 : decode cX12_readsClaim 10 = .ok (.iconst 0, 1) := by decide +kernel
theorem dX12_readsClaim_11 : decode cX12_readsClaim 11 = .ok (.invokevirtual 127, 3) := by decide +kernel
theorem dX12_readsClaim_14 : decode cX12_readsClaim 14 = .ok (.ifCond .eq 12, 3) := by decide +kernel
theorem dX12_readsClaim_17 : decode cX12_readsClaim 17 = .ok (.aload_n 0, 1) := by decide +kernel
theorem dX12_readsClaim_18 : decode cX12_readsClaim 18 = .ok (.bipush 61, 2) := by decide +kernel
theorem dX12_readsClaim_20 : decode cX12_readsClaim 20 = .ok (.invokevirtual 131, 3) := by decide +kernel
theorem dX12_readsClaim_23 : decode cX12_readsClaim 23 = .ok (.ifCond .ne 5, 3) := by decide +kernel
theorem dX12_readsClaim_26 : decode cX12_readsClaim 26 = .ok (.iconst 0, 1) := by decide +kernel
theorem dX12_readsClaim_27 : decode cX12_readsClaim 27 = .ok (.ireturn, 1) := by decide +kernel
theorem dX12_readsClaim_28 : decode cX12_readsClaim 28 = .ok (.aload_n 0, 1) := by decide +kernel
theorem dX12_readsClaim_29 : decode cX12_readsClaim 29 = .ok (.bipush 20, 2) := by decide +kernel
theorem dX12_readsClaim_31 : decode cX12_readsClaim 31 = .ok (.invokevirtual 153, 3) := by decide +kernel
theorem dX12_readsClaim_34 : decode cX12_readsClaim 34 = .ok (.aload_n 0, 1) := by decide +kernel
theorem dX12_readsClaim_35 : decode cX12_readsClaim 35 = .ok (.bipush 20, 2) := by decide +kernel
theorem dX12_readsClaim_37 : decode cX12_readsClaim 37 = .ok (.iconst 1, 1) := by decide +kernel
theorem dX12_readsClaim_38 : decode cX12_readsClaim 38 = .ok (.iconst 1, 1) := by decide +kernel
theorem dX12_readsClaim_39 : decode cX12_readsClaim 39 = .ok (.iconst 1, 1) := by decide +kernel
theorem dX12_readsClaim_40 : decode cX12_readsClaim 40 = .ok (.aload_n 0, 1) := by decide +kernel
theorem dX12_readsClaim_41 : decode cX12_readsClaim 41 = .ok (.getfield 137, 3) := by decide +kernel
theorem dX12_readsClaim_44 : decode cX12_readsClaim 44 = .ok (.iconst 0, 1) := by decide +kernel
theorem dX12_readsClaim_45 : decode cX12_readsClaim 45 = .ok (.invokevirtual 127, 3) := by decide +kernel
theorem dX12_readsClaim_48 : decode cX12_readsClaim 48 = .ok (.ifCond .ne 5, 3) := by decide +kernel
theorem dX12_readsClaim_51 : decode cX12_readsClaim 51 = .ok (.iconst 0, 1) := by decide +kernel
theorem dX12_readsClaim_52 : decode cX12_readsClaim 52 = .ok (.ireturn, 1) := by decide +kernel
theorem dX12_readsClaim_53 : decode cX12_readsClaim 53 = .ok (.aload_n 0, 1) := by decide +kernel
theorem dX12_readsClaim_54 : decode cX12_readsClaim 54 = .ok (.bipush 21, 2) := by decide +kernel
theorem dX12_readsClaim_56 : decode cX12_readsClaim 56 = .ok (.invokevirtual 153, 3) := by decide +kernel
theorem dX12_readsClaim_59 : decode cX12_readsClaim 59 = .ok (.aload_n 0, 1) := by decide +kernel
theorem dX12_readsClaim_60 : decode cX12_readsClaim 60 = .ok (.getfield 120, 3) := by decide +kernel
theorem dX12_readsClaim_63 : decode cX12_readsClaim 63 = .ok (.aload_n 0, 1) := by decide +kernel
theorem dX12_readsClaim_64 : decode cX12_readsClaim 64 = .ok (.getfield 108, 3) := by decide +kernel
theorem dX12_readsClaim_67 : decode cX12_readsClaim 67 = .ok (.if_icmp .ne 7, 3) := by decide +kernel
theorem dX12_readsClaim_70 : decode cX12_readsClaim 70 = .ok (.iconst 1, 1) := by decide +kernel
theorem dX12_readsClaim_71 : decode cX12_readsClaim 71 = .ok (.goto 4, 3) := by decide +kernel
theorem dX12_readsClaim_74 : decode cX12_readsClaim 74 = .ok (.iconst 0, 1) := by decide +kernel
theorem dX12_readsClaim_75 : decode cX12_readsClaim 75 = .ok (.ireturn, 1) := by decide +kernel
theorem dX12_claim_0 : decode cX12_claim 0 = .ok (.aload_n 0, 1) := by decide +kernel
theorem dX12_claim_1 : decode cX12_claim 1 = .ok (.iconst 0, 1) := by decide +kernel
theorem dX12_claim_2 : decode cX12_claim 2 = .ok (.putfield 120, 3) := by decide +kernel
theorem dX12_claim_5 : decode cX12_claim 5 = .ok (.aload_n 0, 1) := by decide +kernel
theorem dX12_claim_6 : decode cX12_claim 6 = .ok (.invokevirtual 157, 3) := by decide +kernel
theorem dX12_claim_9 : decode cX12_claim 9 = .ok (.ifCond .ne 11, 3) := by decide +kernel
theorem dX12_claim_12 : decode cX12_claim 12 = .ok (.bipush (-100), 2) := by decide +kernel
theorem dX12_claim_14 : decode cX12_claim 14 = .ok (.aload_n 0, 1) := by decide +kernel
theorem dX12_claim_15 : decode cX12_claim 15 = .ok (.getfield 120, 3) := by decide +kernel
theorem dX12_claim_18 : decode cX12_claim 18 = .ok (.isub, 1) := by decide +kernel
theorem dX12_claim_19 : decode cX12_claim 19 = .ok (.ireturn, 1) := by decide +kernel
theorem dX12_claim_20 : decode cX12_claim 20 = .ok (.aload_n 0, 1) := by decide +kernel
theorem dX12_claim_21 : decode cX12_claim 21 = .ok (.bipush 20, 2) := by decide +kernel
theorem dX12_claim_23 : decode cX12_claim 23 = .ok (.iconst 0, 1) := by decide +kernel
theorem dX12_claim_24 : decode cX12_claim 24 = .ok (.invokevirtual 161, 3) := by decide +kernel
theorem dX12_claim_27 : decode cX12_claim 27 = .ok (.aload_n 0, 1) := by decide +kernel
theorem dX12_claim_28 : decode cX12_claim 28 = .ok (.bipush 21, 2) := by decide +kernel
theorem dX12_claim_30 : decode cX12_claim 30 = .ok (.iconst 1, 1) := by decide +kernel
theorem dX12_claim_31 : decode cX12_claim 31 = .ok (.invokevirtual 161, 3) := by decide +kernel
theorem dX12_claim_34 : decode cX12_claim 34 = .ok (.aload_n 0, 1) := by decide +kernel
theorem dX12_claim_35 : decode cX12_claim 35 = .ok (.iconst 1, 1) := by decide +kernel
theorem dX12_claim_36 : decode cX12_claim 36 = .ok (.putfield 164, 3) := by decide +kernel
theorem dX12_claim_39 : decode cX12_claim 39 = .ok (.aload_n 0, 1) := by decide +kernel
theorem dX12_claim_40 : decode cX12_claim 40 = .ok (.getfield 13, 3) := by decide +kernel
theorem dX12_claim_43 : decode cX12_claim 43 = .ok (.iconst 0, 1) := by decide +kernel
theorem dX12_claim_44 : decode cX12_claim 44 = .ok (.iaload, 1) := by decide +kernel
theorem dX12_claim_45 : decode cX12_claim 45 = .ok (.aload_n 0, 1) := by decide +kernel
theorem dX12_claim_46 : decode cX12_claim 46 = .ok (.getfield 13, 3) := by decide +kernel
theorem dX12_claim_49 : decode cX12_claim 49 = .ok (.iconst 1, 1) := by decide +kernel
theorem dX12_claim_50 : decode cX12_claim 50 = .ok (.iaload, 1) := by decide +kernel
theorem dX12_claim_51 : decode cX12_claim 51 = .ok (.iadd, 1) := by decide +kernel
theorem dX12_claim_52 : decode cX12_claim 52 = .ok (.ireturn, 1) := by decide +kernel
theorem dX12_told_0 : decode cX12_told 0 = .ok (.iload_n 2, 1) := by decide +kernel
theorem dX12_told_1 : decode cX12_told 1 = .ok (.bipush (-9), 2) := by decide +kernel
theorem dX12_told_3 : decode cX12_told 3 = .ok (.if_icmp .ne 12, 3) := by decide +kernel
theorem dX12_told_6 : decode cX12_told 6 = .ok (.aload_n 0, 1) := by decide +kernel
theorem dX12_told_7 : decode cX12_told 7 = .ok (.getfield 13, 3) := by decide +kernel
theorem dX12_told_10 : decode cX12_told 10 = .ok (.iload_n 1, 1) := by decide +kernel
theorem dX12_told_11 : decode cX12_told 11 = .ok (.iaload, 1) := by decide +kernel
theorem dX12_told_12 : decode cX12_told 12 = .ok (.goto 24, 3) := by decide +kernel
theorem dX12_told_15 : decode cX12_told 15 = .ok (.iload_n 2, 1) := by decide +kernel
theorem dX12_told_16 : decode cX12_told 16 = .ok (.aload_n 0, 1) := by decide +kernel
theorem dX12_told_17 : decode cX12_told 17 = .ok (.getfield 13, 3) := by decide +kernel
theorem dX12_told_20 : decode cX12_told 20 = .ok (.iload_n 1, 1) := by decide +kernel
theorem dX12_told_21 : decode cX12_told 21 = .ok (.iaload, 1) := by decide +kernel
theorem dX12_told_22 : decode cX12_told 22 = .ok (.if_icmp .ge 12, 3) := by decide +kernel
theorem dX12_told_25 : decode cX12_told 25 = .ok (.aload_n 0, 1) := by decide +kernel
theorem dX12_told_26 : decode cX12_told 26 = .ok (.iload_n 1, 1) := by decide +kernel
theorem dX12_told_27 : decode cX12_told 27 = .ok (.iload_n 2, 1) := by decide +kernel
theorem dX12_told_28 : decode cX12_told 28 = .ok (.invokevirtual 92, 3) := by decide +kernel
theorem dX12_told_31 : decode cX12_told 31 = .ok (.goto 5, 3) := by decide +kernel
theorem dX12_told_34 : decode cX12_told 34 = .ok (.bipush (-9), 2) := by decide +kernel
theorem dX12_told_36 : decode cX12_told 36 = .ok (.ireturn, 1) := by decide +kernel
theorem dX12_side_0 : decode cX12_side 0 = .ok (.iload_n 1, 1) := by decide +kernel
theorem dX12_side_1 : decode cX12_side 1 = .ok (.iconst 0, 1) := by decide +kernel
theorem dX12_side_2 : decode cX12_side 2 = .ok (.iconst 1, 1) := by decide +kernel
theorem dX12_side_3 : decode cX12_side 3 = .ok (.invokestatic 96, 3) := by decide +kernel
theorem dX12_side_6 : decode cX12_side 6 = .ok (.ifCond .eq 13, 3) := by decide +kernel
theorem dX12_side_9 : decode cX12_side 9 = .ok (.iload_n 2, 1) := by decide +kernel
theorem dX12_side_10 : decode cX12_side 10 = .ok (.iconst 0, 1) := by decide +kernel
theorem dX12_side_11 : decode cX12_side 11 = .ok (.bipush 19, 2) := by decide +kernel
theorem dX12_side_13 : decode cX12_side 13 = .ok (.invokestatic 96, 3) := by decide +kernel
theorem dX12_side_16 : decode cX12_side 16 = .ok (.ifCond .ne 6, 3) := by decide +kernel
theorem dX12_side_19 : decode cX12_side 19 = .ok (.bipush (-2), 2) := by decide +kernel
theorem dX12_side_21 : decode cX12_side 21 = .ok (.ireturn, 1) := by decide +kernel
theorem dX12_side_22 : decode cX12_side 22 = .ok (.aload_n 0, 1) := by decide +kernel
theorem dX12_side_23 : decode cX12_side 23 = .ok (.getfield 164, 3) := by decide +kernel
theorem dX12_side_26 : decode cX12_side 26 = .ok (.ifCond .eq 14, 3) := by decide +kernel
theorem dX12_side_29 : decode cX12_side 29 = .ok (.aload_n 0, 1) := by decide +kernel
theorem dX12_side_30 : decode cX12_side 30 = .ok (.iconst 0, 1) := by decide +kernel
theorem dX12_side_31 : decode cX12_side 31 = .ok (.iload_n 1, 1) := by decide +kernel
theorem dX12_side_32 : decode cX12_side 32 = .ok (.iadd, 1) := by decide +kernel
theorem dX12_side_33 : decode cX12_side 33 = .ok (.iload_n 2, 1) := by decide +kernel
theorem dX12_side_34 : decode cX12_side 34 = .ok (.invokevirtual 168, 3) := by decide +kernel
theorem dX12_side_37 : decode cX12_side 37 = .ok (.goto 5, 3) := by decide +kernel
theorem dX12_side_40 : decode cX12_side 40 = .ok (.bipush (-3), 2) := by decide +kernel
theorem dX12_side_42 : decode cX12_side 42 = .ok (.ireturn, 1) := by decide +kernel
theorem dX12_anew_0 : decode cX12_anew 0 = .ok (.aload_n 0, 1) := by decide +kernel
theorem dX12_anew_1 : decode cX12_anew 1 = .ok (.getfield 137, 3) := by decide +kernel
theorem dX12_anew_4 : decode cX12_anew 4 = .ok (.istore_n 1, 1) := by decide +kernel
theorem dX12_anew_5 : decode cX12_anew 5 = .ok (.aload_n 0, 1) := by decide +kernel
theorem dX12_anew_6 : decode cX12_anew 6 = .ok (.iconst 0, 1) := by decide +kernel
theorem dX12_anew_7 : decode cX12_anew 7 = .ok (.putfield 137, 3) := by decide +kernel
theorem dX12_anew_10 : decode cX12_anew 10 = .ok (.aload_n 0, 1) := by decide +kernel
theorem dX12_anew_11 : decode cX12_anew 11 = .ok (.iconst 0, 1) := by decide +kernel
theorem dX12_anew_12 : decode cX12_anew 12 = .ok (.putfield 171, 3) := by decide +kernel
theorem dX12_anew_15 : decode cX12_anew 15 = .ok (.aload_n 0, 1) := by decide +kernel
theorem dX12_anew_16 : decode cX12_anew 16 = .ok (.iconst 0, 1) := by decide +kernel
theorem dX12_anew_17 : decode cX12_anew 17 = .ok (.putfield 164, 3) := by decide +kernel
theorem dX12_anew_20 : decode cX12_anew 20 = .ok (.aload_n 0, 1) := by decide +kernel
theorem dX12_anew_21 : decode cX12_anew 21 = .ok (.iconst 0, 1) := by decide +kernel
theorem dX12_anew_22 : decode cX12_anew 22 = .ok (.putfield 174, 3) := by decide +kernel
theorem dX12_anew_25 : decode cX12_anew 25 = .ok (.aload_n 0, 1) := by decide +kernel
theorem dX12_anew_26 : decode cX12_anew 26 = .ok (.bipush (-9), 2) := by decide +kernel
theorem dX12_anew_28 : decode cX12_anew 28 = .ok (.putfield 79, 3) := by decide +kernel
theorem dX12_anew_31 : decode cX12_anew 31 = .ok (.iload_n 1, 1) := by decide +kernel
theorem dX12_anew_32 : decode cX12_anew 32 = .ok (.ireturn, 1) := by decide +kernel
theorem dX12_signOf_0 : decode cX12_signOf 0 = .ok (.aload_n 0, 1) := by decide +kernel
theorem dX12_signOf_1 : decode cX12_signOf 1 = .ok (.getfield 37, 3) := by decide +kernel
theorem dX12_signOf_4 : decode cX12_signOf 4 = .ok (.iload_n 1, 1) := by decide +kernel
theorem dX12_signOf_5 : decode cX12_signOf 5 = .ok (.iaload, 1) := by decide +kernel
theorem dX12_signOf_6 : decode cX12_signOf 6 = .ok (.istore_n 3, 1) := by decide +kernel
theorem dX12_signOf_7 : decode cX12_signOf 7 = .ok (.iload_n 3, 1) := by decide +kernel
theorem dX12_signOf_8 : decode cX12_signOf 8 = .ok (.bipush 100, 2) := by decide +kernel
theorem dX12_signOf_10 : decode cX12_signOf 10 = .ok (.if_icmp .ge 12, 3) := by decide +kernel
theorem dX12_signOf_13 : decode cX12_signOf 13 = .ok (.aload_n 0, 1) := by decide +kernel
theorem dX12_signOf_14 : decode cX12_signOf 14 = .ok (.iload_n 3, 1) := by decide +kernel
theorem dX12_signOf_15 : decode cX12_signOf 15 = .ok (.iload_n 2, 1) := by decide +kernel
theorem dX12_signOf_16 : decode cX12_signOf 16 = .ok (.invokevirtual 92, 3) := by decide +kernel
theorem dX12_signOf_19 : decode cX12_signOf 19 = .ok (.goto 17, 3) := by decide +kernel
theorem dX12_signOf_22 : decode cX12_signOf 22 = .ok (.aload_n 0, 1) := by decide +kernel
theorem dX12_signOf_23 : decode cX12_signOf 23 = .ok (.getfield 25, 3) := by decide +kernel
theorem dX12_signOf_26 : decode cX12_signOf 26 = .ok (.bipush 10, 2) := by decide +kernel
theorem dX12_signOf_28 : decode cX12_signOf 28 = .ok (.iload_n 3, 1) := by decide +kernel
theorem dX12_signOf_29 : decode cX12_signOf 29 = .ok (.bipush 100, 2) := by decide +kernel
theorem dX12_signOf_31 : decode cX12_signOf 31 = .ok (.isub, 1) := by decide +kernel
theorem dX12_signOf_32 : decode cX12_signOf 32 = .ok (.imul, 1) := by decide +kernel
theorem dX12_signOf_33 : decode cX12_signOf 33 = .ok (.iload_n 2, 1) := by decide +kernel
theorem dX12_signOf_34 : decode cX12_signOf 34 = .ok (.iadd, 1) := by decide +kernel
theorem dX12_signOf_35 : decode cX12_signOf 35 = .ok (.iaload, 1) := by decide +kernel
theorem dX12_signOf_36 : decode cX12_signOf 36 = .ok (.ireturn, 1) := by decide +kernel
theorem dX12_enters_0 : decode cX12_enters 0 = .ok (.aload_n 0, 1) := by decide +kernel
theorem dX12_enters_1 : decode cX12_enters 1 = .ok (.getfield 37, 3) := by decide +kernel
theorem dX12_enters_4 : decode cX12_enters 4 = .ok (.aload_n 0, 1) := by decide +kernel
theorem dX12_enters_5 : decode cX12_enters 5 = .ok (.getfield 177, 3) := by decide +kernel
theorem dX12_enters_8 : decode cX12_enters 8 = .ok (.iload_n 1, 1) := by decide +kernel
theorem dX12_enters_9 : decode cX12_enters 9 = .ok (.iastore, 1) := by decide +kernel
theorem dX12_enters_10 : decode cX12_enters 10 = .ok (.aload_n 0, 1) := by decide +kernel
theorem dX12_enters_11 : decode cX12_enters 11 = .ok (.getfield 40, 3) := by decide +kernel
theorem dX12_enters_14 : decode cX12_enters 14 = .ok (.aload_n 0, 1) := by decide +kernel
theorem dX12_enters_15 : decode cX12_enters 15 = .ok (.getfield 177, 3) := by decide +kernel
theorem dX12_enters_18 : decode cX12_enters 18 = .ok (.iload_n 2, 1) := by decide +kernel
theorem dX12_enters_19 : decode cX12_enters 19 = .ok (.iconst 1, 1) := by decide +kernel
theorem dX12_enters_20 : decode cX12_enters 20 = .ok (.isub, 1) := by decide +kernel
theorem dX12_enters_21 : decode cX12_enters 21 = .ok (.iastore, 1) := by decide +kernel
theorem dX12_enters_22 : decode cX12_enters 22 = .ok (.aload_n 0, 1) := by decide +kernel
theorem dX12_enters_23 : decode cX12_enters 23 = .ok (.getfield 43, 3) := by decide +kernel
theorem dX12_enters_26 : decode cX12_enters 26 = .ok (.aload_n 0, 1) := by decide +kernel
theorem dX12_enters_27 : decode cX12_enters 27 = .ok (.getfield 177, 3) := by decide +kernel
theorem dX12_enters_30 : decode cX12_enters 30 = .ok (.iload_n 3, 1) := by decide +kernel
theorem dX12_enters_31 : decode cX12_enters 31 = .ok (.iastore, 1) := by decide +kernel
theorem dX12_enters_32 : decode cX12_enters 32 = .ok (.aload_n 0, 1) := by decide +kernel
theorem dX12_enters_33 : decode cX12_enters 33 = .ok (.getfield 46, 3) := by decide +kernel
theorem dX12_enters_36 : decode cX12_enters 36 = .ok (.aload_n 0, 1) := by decide +kernel
theorem dX12_enters_37 : decode cX12_enters 37 = .ok (.getfield 177, 3) := by decide +kernel
theorem dX12_enters_40 : decode cX12_enters 40 = .ok (.iload 4, 2) := by decide +kernel
theorem dX12_enters_42 : decode cX12_enters 42 = .ok (.iastore, 1) := by decide +kernel
theorem dX12_enters_43 : decode cX12_enters 43 = .ok (.aload_n 0, 1) := by decide +kernel
theorem dX12_enters_44 : decode cX12_enters 44 = .ok (.getfield 49, 3) := by decide +kernel
theorem dX12_enters_47 : decode cX12_enters 47 = .ok (.aload_n 0, 1) := by decide +kernel
theorem dX12_enters_48 : decode cX12_enters 48 = .ok (.getfield 177, 3) := by decide +kernel
theorem dX12_enters_51 : decode cX12_enters 51 = .ok (.iload 5, 2) := by decide +kernel
theorem dX12_enters_53 : decode cX12_enters 53 = .ok (.iastore, 1) := by decide +kernel
theorem dX12_enters_54 : decode cX12_enters 54 = .ok (.aload_n 0, 1) := by decide +kernel
theorem dX12_enters_55 : decode cX12_enters 55 = .ok (.dup, 1) := by decide +kernel
theorem dX12_enters_56 : decode cX12_enters 56 = .ok (.getfield 177, 3) := by decide +kernel
theorem dX12_enters_59 : decode cX12_enters 59 = .ok (.iconst 1, 1) := by decide +kernel
theorem dX12_enters_60 : decode cX12_enters 60 = .ok (.iadd, 1) := by decide +kernel
theorem dX12_enters_61 : decode cX12_enters 61 = .ok (.putfield 177, 3) := by decide +kernel
theorem dX12_enters_64 : decode cX12_enters 64 = .ok (.return_, 1) := by decide +kernel
theorem dX12_calls_0 : decode cX12_calls 0 = .ok (.aload_n 0, 1) := by decide +kernel
theorem dX12_calls_1 : decode cX12_calls 1 = .ok (.dup, 1) := by decide +kernel
theorem dX12_calls_2 : decode cX12_calls 2 = .ok (.getfield 180, 3) := by decide +kernel
theorem dX12_calls_5 : decode cX12_calls 5 = .ok (.iconst 1, 1) := by decide +kernel
theorem dX12_calls_6 : decode cX12_calls 6 = .ok (.iadd, 1) := by decide +kernel
theorem dX12_calls_7 : decode cX12_calls 7 = .ok (.putfield 180, 3) := by decide +kernel
theorem dX12_calls_10 : decode cX12_calls 10 = .ok (.aload_n 0, 1) := by decide +kernel
theorem dX12_calls_11 : decode cX12_calls 11 = .ok (.getfield 180, 3) := by decide +kernel
theorem dX12_calls_14 : decode cX12_calls 14 = .ok (.bipush 60, 2) := by decide +kernel
theorem dX12_calls_16 : decode cX12_calls 16 = .ok (.if_icmp .le 5, 3) := by decide +kernel
theorem dX12_calls_19 : decode cX12_calls 19 = .ok (.iconst 0, 1) := by decide +kernel
theorem dX12_calls_20 : decode cX12_calls 20 = .ok (.ireturn, 1) := by decide +kernel
theorem dX12_calls_21 : decode cX12_calls 21 = .ok (.aload_n 0, 1) := by decide +kernel
theorem dX12_calls_22 : decode cX12_calls 22 = .ok (.getfield 22, 3) := by decide +kernel
theorem dX12_calls_25 : decode cX12_calls 25 = .ok (.iload_n 1, 1) := by decide +kernel
theorem dX12_calls_26 : decode cX12_calls 26 = .ok (.iaload, 1) := by decide +kernel
theorem dX12_calls_27 : decode cX12_calls 27 = .ok (.istore 4, 2) := by decide +kernel
theorem dX12_calls_29 : decode cX12_calls 29 = .ok (.iload_n 2, 1) := by decide +kernel
theorem dX12_calls_30 : decode cX12_calls 30 = .ok (.ifCond .ne 7, 3) := by decide +kernel
theorem dX12_calls_33 : decode cX12_calls 33 = .ok (.iconst 0, 1) := by decide +kernel
theorem dX12_calls_34 : decode cX12_calls 34 = .ok (.goto 14, 3) := by decide +kernel
theorem dX12_calls_37 : decode cX12_calls 37 = .ok (.iload_n 2, 1) := by decide +kernel
theorem dX12_calls_38 : decode cX12_calls 38 = .ok (.iload 4, 2) := by decide +kernel
theorem dX12_calls_40 : decode cX12_calls 40 = .ok (.if_icmp .lt 7, 3) := by decide +kernel
theorem dX12_calls_43 : decode cX12_calls 43 = .ok (.iconst 2, 1) := by decide +kernel
theorem dX12_calls_44 : decode cX12_calls 44 = .ok (.goto 4, 3) := by decide +kernel
theorem dX12_calls_47 : decode cX12_calls 47 = .ok (.iconst 1, 1) := by decide +kernel
theorem dX12_calls_48 : decode cX12_calls 48 = .ok (.istore 5, 2) := by decide +kernel
theorem dX12_calls_50 : decode cX12_calls 50 = .ok (.aload_n 0, 1) := by decide +kernel
theorem dX12_calls_51 : decode cX12_calls 51 = .ok (.bipush 100, 2) := by decide +kernel
theorem dX12_calls_53 : decode cX12_calls 53 = .ok (.iconst 3, 1) := by decide +kernel
theorem dX12_calls_54 : decode cX12_calls 54 = .ok (.iload_n 1, 1) := by decide +kernel
theorem dX12_calls_55 : decode cX12_calls 55 = .ok (.imul, 1) := by decide +kernel
theorem dX12_calls_56 : decode cX12_calls 56 = .ok (.iadd, 1) := by decide +kernel
theorem dX12_calls_57 : decode cX12_calls 57 = .ok (.iload 5, 2) := by decide +kernel
theorem dX12_calls_59 : decode cX12_calls 59 = .ok (.iadd, 1) := by decide +kernel
theorem dX12_calls_60 : decode cX12_calls 60 = .ok (.aload_n 0, 1) := by decide +kernel
theorem dX12_calls_61 : decode cX12_calls 61 = .ok (.getfield 28, 3) := by decide +kernel
theorem dX12_calls_64 : decode cX12_calls 64 = .ok (.iconst 3, 1) := by decide +kernel
theorem dX12_calls_65 : decode cX12_calls 65 = .ok (.iload_n 1, 1) := by decide +kernel
theorem dX12_calls_66 : decode cX12_calls 66 = .ok (.imul, 1) := by decide +kernel
theorem dX12_calls_67 : decode cX12_calls 67 = .ok (.iload 5, 2) := by decide +kernel
theorem dX12_calls_69 : decode cX12_calls 69 = .ok (.iadd, 1) := by decide +kernel
theorem dX12_calls_70 : decode cX12_calls 70 = .ok (.iaload, 1) := by decide +kernel
theorem dX12_calls_71 : decode cX12_calls 71 = .ok (.iload_n 2, 1) := by decide +kernel
theorem dX12_calls_72 : decode cX12_calls 72 = .ok (.iload 4, 2) := by decide +kernel
theorem dX12_calls_74 : decode cX12_calls 74 = .ok (.isub, 1) := by decide +kernel
theorem dX12_calls_75 : decode cX12_calls 75 = .ok (.iload_n 3, 1) := by decide +kernel
theorem dX12_calls_76 : decode cX12_calls 76 = .ok (.iconst 0, 1) := by decide +kernel
theorem dX12_calls_77 : decode cX12_calls 77 = .ok (.invokevirtual 183, 3) := by decide +kernel
theorem dX12_calls_80 : decode cX12_calls 80 = .ok (.iconst 1, 1) := by decide +kernel
theorem dX12_calls_81 : decode cX12_calls 81 = .ok (.ireturn, 1) := by decide +kernel
theorem dX12_takesSign_0 : decode cX12_takesSign 0 = .ok (.iload_n 2, 1) := by decide +kernel
theorem dX12_takesSign_1 : decode cX12_takesSign 1 = .ok (.bipush 90, 2) := by decide +kernel
theorem dX12_takesSign_3 : decode cX12_takesSign 3 = .ok (.if_icmp .ne 26, 3) := by decide +kernel
theorem dX12_takesSign_6 : decode cX12_takesSign 6 = .ok (.aload_n 0, 1) := by decide +kernel
theorem dX12_takesSign_7 : decode cX12_takesSign 7 = .ok (.getfield 34, 3) := by decide +kernel
theorem dX12_takesSign_10 : decode cX12_takesSign 10 = .ok (.aload_n 0, 1) := by decide +kernel
theorem dX12_takesSign_11 : decode cX12_takesSign 11 = .ok (.getfield 187, 3) := by decide +kernel
theorem dX12_takesSign_14 : decode cX12_takesSign 14 = .ok (.iconst 0, 1) := by decide +kernel
theorem dX12_takesSign_15 : decode cX12_takesSign 15 = .ok (.iastore, 1) := by decide +kernel
theorem dX12_takesSign_16 : decode cX12_takesSign 16 = .ok (.aload_n 0, 1) := by decide +kernel
theorem dX12_takesSign_17 : decode cX12_takesSign 17 = .ok (.dup, 1) := by decide +kernel
theorem dX12_takesSign_18 : decode cX12_takesSign 18 = .ok (.getfield 187, 3) := by decide +kernel
theorem dX12_takesSign_21 : decode cX12_takesSign 21 = .ok (.iconst 1, 1) := by decide +kernel
theorem dX12_takesSign_22 : decode cX12_takesSign 22 = .ok (.iadd, 1) := by decide +kernel
theorem dX12_takesSign_23 : decode cX12_takesSign 23 = .ok (.putfield 187, 3) := by decide +kernel
theorem dX12_takesSign_26 : decode cX12_takesSign 26 = .ok (.goto 181, 3) := by decide +kernel
theorem dX12_takesSign_29 : decode cX12_takesSign 29 = .ok (.iload_n 2, 1) := by decide +kernel
theorem dX12_takesSign_30 : decode cX12_takesSign 30 = .ok (.bipush 83, 2) := by decide +kernel
theorem dX12_takesSign_32 : decode cX12_takesSign 32 = .ok (.if_icmp .ne 40, 3) := by decide +kernel
theorem dX12_takesSign_35 : decode cX12_takesSign 35 = .ok (.aload_n 0, 1) := by decide +kernel
theorem dX12_takesSign_36 : decode cX12_takesSign 36 = .ok (.getfield 34, 3) := by decide +kernel
theorem dX12_takesSign_39 : decode cX12_takesSign 39 = .ok (.aload_n 0, 1) := by decide +kernel
theorem dX12_takesSign_40 : decode cX12_takesSign 40 = .ok (.getfield 187, 3) := by decide +kernel
theorem dX12_takesSign_43 : decode cX12_takesSign 43 = .ok (.iconst 1, 1) := by decide +kernel
theorem dX12_takesSign_44 : decode cX12_takesSign 44 = .ok (.isub, 1) := by decide +kernel
theorem dX12_takesSign_45 : decode cX12_takesSign 45 = .ok (.dup2, 1) := by decide +kernel
theorem dX12_takesSign_46 : decode cX12_takesSign 46 = .ok (.iaload, 1) := by decide +kernel
theorem dX12_takesSign_47 : decode cX12_takesSign 47 = .ok (.iconst 1, 1) := by decide +kernel
theorem dX12_takesSign_48 : decode cX12_takesSign 48 = .ok (.iadd, 1) := by decide +kernel
theorem dX12_takesSign_49 : decode cX12_takesSign 49 = .ok (.iastore, 1) := by decide +kernel
theorem dX12_takesSign_50 : decode cX12_takesSign 50 = .ok (.aload_n 0, 1) := by decide +kernel
theorem dX12_takesSign_51 : decode cX12_takesSign 51 = .ok (.getfield 34, 3) := by decide +kernel
theorem dX12_takesSign_54 : decode cX12_takesSign 54 = .ok (.aload_n 0, 1) := by decide +kernel
theorem dX12_takesSign_55 : decode cX12_takesSign 55 = .ok (.getfield 187, 3) := by decide +kernel
theorem dX12_takesSign_58 : decode cX12_takesSign 58 = .ok (.iconst 1, 1) := by decide +kernel
theorem dX12_takesSign_59 : decode cX12_takesSign 59 = .ok (.isub, 1) := by decide +kernel
theorem dX12_takesSign_60 : decode cX12_takesSign 60 = .ok (.iaload, 1) := by decide +kernel
theorem dX12_takesSign_61 : decode cX12_takesSign 61 = .ok (.bipush 99, 2) := by decide +kernel
theorem dX12_takesSign_63 : decode cX12_takesSign 63 = .ok (.if_icmp .gt 7, 3) := by decide +kernel
theorem dX12_takesSign_66 : decode cX12_takesSign 66 = .ok (.iconst 1, 1) := by decide +kernel
theorem dX12_takesSign_67 : decode cX12_takesSign 67 = .ok (.goto 4, 3) := by decide +kernel
theorem dX12_takesSign_70 : decode cX12_takesSign 70 = .ok (.iconst 0, 1) := by decide +kernel
theorem dX12_takesSign_71 : decode cX12_takesSign 71 = .ok (.ireturn, 1) := by decide +kernel
theorem dX12_takesSign_72 : decode cX12_takesSign 72 = .ok (.iload_n 2, 1) := by decide +kernel
theorem dX12_takesSign_73 : decode cX12_takesSign 73 = .ok (.invokestatic 111, 3) := by decide +kernel
theorem dX12_takesSign_76 : decode cX12_takesSign 76 = .ok (.ifCond .eq 61, 3) := by decide +kernel
theorem dX12_takesSign_79 : decode cX12_takesSign 79 = .ok (.aload_n 0, 1) := by decide +kernel
theorem dX12_takesSign_80 : decode cX12_takesSign 80 = .ok (.getfield 34, 3) := by decide +kernel
theorem dX12_takesSign_83 : decode cX12_takesSign 83 = .ok (.aload_n 0, 1) := by decide +kernel
theorem dX12_takesSign_84 : decode cX12_takesSign 84 = .ok (.getfield 187, 3) := by decide +kernel
theorem dX12_takesSign_87 : decode cX12_takesSign 87 = .ok (.iload_n 2, 1) := by decide +kernel
theorem dX12_takesSign_88 : decode cX12_takesSign 88 = .ok (.bipush 120, 2) := by decide +kernel
theorem dX12_takesSign_90 : decode cX12_takesSign 90 = .ok (.if_icmp .ne 12, 3) := by decide +kernel
theorem dX12_takesSign_93 : decode cX12_takesSign 93 = .ok (.aload_n 0, 1) := by decide +kernel
theorem dX12_takesSign_94 : decode cX12_takesSign 94 = .ok (.getfield 43, 3) := by decide +kernel
theorem dX12_takesSign_97 : decode cX12_takesSign 97 = .ok (.iload_n 1, 1) := by decide +kernel
theorem dX12_takesSign_98 : decode cX12_takesSign 98 = .ok (.iaload, 1) := by decide +kernel
theorem dX12_takesSign_99 : decode cX12_takesSign 99 = .ok (.goto 24, 3) := by decide +kernel
theorem dX12_takesSign_102 : decode cX12_takesSign 102 = .ok (.iload_n 2, 1) := by decide +kernel
theorem dX12_takesSign_103 : decode cX12_takesSign 103 = .ok (.bipush 121, 2) := by decide +kernel
theorem dX12_takesSign_105 : decode cX12_takesSign 105 = .ok (.if_icmp .ne 12, 3) := by decide +kernel
theorem dX12_takesSign_108 : decode cX12_takesSign 108 = .ok (.aload_n 0, 1) := by decide +kernel
theorem dX12_takesSign_109 : decode cX12_takesSign 109 = .ok (.getfield 46, 3) := by decide +kernel
theorem dX12_takesSign_112 : decode cX12_takesSign 112 = .ok (.iload_n 1, 1) := by decide +kernel
theorem dX12_takesSign_113 : decode cX12_takesSign 113 = .ok (.iaload, 1) := by decide +kernel
theorem dX12_takesSign_114 : decode cX12_takesSign 114 = .ok (.goto 9, 3) := by decide +kernel
theorem dX12_takesSign_117 : decode cX12_takesSign 117 = .ok (.aload_n 0, 1) := by decide +kernel
theorem dX12_takesSign_118 : decode cX12_takesSign 118 = .ok (.getfield 49, 3) := by decide +kernel
theorem dX12_takesSign_121 : decode cX12_takesSign 121 = .ok (.iload_n 1, 1) := by decide +kernel
theorem dX12_takesSign_122 : decode cX12_takesSign 122 = .ok (.iaload, 1) := by decide +kernel
theorem dX12_takesSign_123 : decode cX12_takesSign 123 = .ok (.iastore, 1) := by decide +kernel
theorem dX12_takesSign_124 : decode cX12_takesSign 124 = .ok (.aload_n 0, 1) := by decide +kernel
theorem dX12_takesSign_125 : decode cX12_takesSign 125 = .ok (.dup, 1) := by decide +kernel
theorem dX12_takesSign_126 : decode cX12_takesSign 126 = .ok (.getfield 187, 3) := by decide +kernel
theorem dX12_takesSign_129 : decode cX12_takesSign 129 = .ok (.iconst 1, 1) := by decide +kernel
theorem dX12_takesSign_130 : decode cX12_takesSign 130 = .ok (.iadd, 1) := by decide +kernel
theorem dX12_takesSign_131 : decode cX12_takesSign 131 = .ok (.putfield 187, 3) := by decide +kernel
theorem dX12_takesSign_134 : decode cX12_takesSign 134 = .ok (.goto 73, 3) := by decide +kernel
theorem dX12_takesSign_137 : decode cX12_takesSign 137 = .ok (.iload_n 2, 1) := by decide +kernel
theorem dX12_takesSign_138 : decode cX12_takesSign 138 = .ok (.bipush 97, 2) := by decide +kernel
theorem dX12_takesSign_140 : decode cX12_takesSign 140 = .ok (.isub, 1) := by decide +kernel
theorem dX12_takesSign_141 : decode cX12_takesSign 141 = .ok (.istore_n 3, 1) := by decide +kernel
theorem dX12_takesSign_142 : decode cX12_takesSign 142 = .ok (.aload_n 0, 1) := by decide +kernel
theorem dX12_takesSign_143 : decode cX12_takesSign 143 = .ok (.getfield 34, 3) := by decide +kernel
theorem dX12_takesSign_146 : decode cX12_takesSign 146 = .ok (.aload_n 0, 1) := by decide +kernel
theorem dX12_takesSign_147 : decode cX12_takesSign 147 = .ok (.getfield 187, 3) := by decide +kernel
theorem dX12_takesSign_150 : decode cX12_takesSign 150 = .ok (.iconst 1, 1) := by decide +kernel
theorem dX12_takesSign_151 : decode cX12_takesSign 151 = .ok (.isub, 1) := by decide +kernel
theorem dX12_takesSign_152 : decode cX12_takesSign 152 = .ok (.iaload, 1) := by decide +kernel
theorem dX12_takesSign_153 : decode cX12_takesSign 153 = .ok (.istore 4, 2) := by decide +kernel
theorem dX12_takesSign_155 : decode cX12_takesSign 155 = .ok (.aload_n 0, 1) := by decide +kernel
theorem dX12_takesSign_156 : decode cX12_takesSign 156 = .ok (.getfield 19, 3) := by decide +kernel
theorem dX12_takesSign_159 : decode cX12_takesSign 159 = .ok (.iload_n 3, 1) := by decide +kernel
theorem dX12_takesSign_160 : decode cX12_takesSign 160 = .ok (.iaload, 1) := by decide +kernel
theorem dX12_takesSign_161 : decode cX12_takesSign 161 = .ok (.iconst 2, 1) := by decide +kernel
theorem dX12_takesSign_162 : decode cX12_takesSign 162 = .ok (.if_icmp .ne 17, 3) := by decide +kernel
theorem dX12_takesSign_165 : decode cX12_takesSign 165 = .ok (.aload_n 0, 1) := by decide +kernel
theorem dX12_takesSign_166 : decode cX12_takesSign 166 = .ok (.getfield 34, 3) := by decide +kernel
theorem dX12_takesSign_169 : decode cX12_takesSign 169 = .ok (.aload_n 0, 1) := by decide +kernel
theorem dX12_takesSign_170 : decode cX12_takesSign 170 = .ok (.getfield 187, 3) := by decide +kernel
theorem dX12_takesSign_173 : decode cX12_takesSign 173 = .ok (.iconst 2, 1) := by decide +kernel
theorem dX12_takesSign_174 : decode cX12_takesSign 174 = .ok (.isub, 1) := by decide +kernel
theorem dX12_takesSign_175 : decode cX12_takesSign 175 = .ok (.iaload, 1) := by decide +kernel
theorem dX12_takesSign_176 : decode cX12_takesSign 176 = .ok (.goto 4, 3) := by decide +kernel
theorem dX12_takesSign_179 : decode cX12_takesSign 179 = .ok (.iconst 0, 1) := by decide +kernel
theorem dX12_takesSign_180 : decode cX12_takesSign 180 = .ok (.istore 5, 2) := by decide +kernel
theorem dX12_takesSign_182 : decode cX12_takesSign 182 = .ok (.aload_n 0, 1) := by decide +kernel
theorem dX12_takesSign_183 : decode cX12_takesSign 183 = .ok (.dup, 1) := by decide +kernel
theorem dX12_takesSign_184 : decode cX12_takesSign 184 = .ok (.getfield 187, 3) := by decide +kernel
theorem dX12_takesSign_187 : decode cX12_takesSign 187 = .ok (.aload_n 0, 1) := by decide +kernel
theorem dX12_takesSign_188 : decode cX12_takesSign 188 = .ok (.getfield 19, 3) := by decide +kernel
theorem dX12_takesSign_191 : decode cX12_takesSign 191 = .ok (.iload_n 3, 1) := by decide +kernel
theorem dX12_takesSign_192 : decode cX12_takesSign 192 = .ok (.iaload, 1) := by decide +kernel
theorem dX12_takesSign_193 : decode cX12_takesSign 193 = .ok (.isub, 1) := by decide +kernel
theorem dX12_takesSign_194 : decode cX12_takesSign 194 = .ok (.putfield 187, 3) := by decide +kernel
theorem dX12_takesSign_197 : decode cX12_takesSign 197 = .ok (.aload_n 0, 1) := by decide +kernel
theorem dX12_takesSign_198 : decode cX12_takesSign 198 = .ok (.iload_n 3, 1) := by decide +kernel
theorem dX12_takesSign_199 : decode cX12_takesSign 199 = .ok (.iload 4, 2) := by decide +kernel
theorem dX12_takesSign_201 : decode cX12_takesSign 201 = .ok (.iload 5, 2) := by decide +kernel
theorem dX12_takesSign_203 : decode cX12_takesSign 203 = .ok (.invokevirtual 190, 3) := by decide +kernel
theorem dX12_takesSign_206 : decode cX12_takesSign 206 = .ok (.ireturn, 1) := by decide +kernel
theorem dX12_takesSign_207 : decode cX12_takesSign 207 = .ok (.iconst 1, 1) := by decide +kernel
theorem dX12_takesSign_208 : decode cX12_takesSign 208 = .ok (.ireturn, 1) := by decide +kernel
theorem dX12_works_0 : decode cX12_works 0 = .ok (.aload_n 0, 1) := by decide +kernel
theorem dX12_works_1 : decode cX12_works 1 = .ok (.getfield 177, 3) := by decide +kernel
theorem dX12_works_4 : decode cX12_works 4 = .ok (.ifCond .le 69, 3) := by decide +kernel
theorem dX12_works_7 : decode cX12_works 7 = .ok (.aload_n 0, 1) := by decide +kernel
theorem dX12_works_8 : decode cX12_works 8 = .ok (.getfield 177, 3) := by decide +kernel
theorem dX12_works_11 : decode cX12_works 11 = .ok (.iconst 1, 1) := by decide +kernel
theorem dX12_works_12 : decode cX12_works 12 = .ok (.isub, 1) := by decide +kernel
theorem dX12_works_13 : decode cX12_works 13 = .ok (.istore_n 1, 1) := by decide +kernel
theorem dX12_works_14 : decode cX12_works 14 = .ok (.aload_n 0, 1) := by decide +kernel
theorem dX12_works_15 : decode cX12_works 15 = .ok (.getfield 40, 3) := by decide +kernel
theorem dX12_works_18 : decode cX12_works 18 = .ok (.iload_n 1, 1) := by decide +kernel
theorem dX12_works_19 : decode cX12_works 19 = .ok (.iaload, 1) := by decide +kernel
theorem dX12_works_20 : decode cX12_works 20 = .ok (.ifCond .ge 16, 3) := by decide +kernel
theorem dX12_works_23 : decode cX12_works 23 = .ok (.aload_n 0, 1) := by decide +kernel
theorem dX12_works_24 : decode cX12_works 24 = .ok (.dup, 1) := by decide +kernel
theorem dX12_works_25 : decode cX12_works 25 = .ok (.getfield 177, 3) := by decide +kernel
theorem dX12_works_28 : decode cX12_works 28 = .ok (.iconst 1, 1) := by decide +kernel
theorem dX12_works_29 : decode cX12_works 29 = .ok (.isub, 1) := by decide +kernel
theorem dX12_works_30 : decode cX12_works 30 = .ok (.putfield 177, 3) := by decide +kernel
theorem dX12_works_33 : decode cX12_works 33 = .ok (.goto 37, 3) := by decide +kernel
theorem dX12_works_36 : decode cX12_works 36 = .ok (.aload_n 0, 1) := by decide +kernel
theorem dX12_works_37 : decode cX12_works 37 = .ok (.iload_n 1, 1) := by decide +kernel
theorem dX12_works_38 : decode cX12_works 38 = .ok (.aload_n 0, 1) := by decide +kernel
theorem dX12_works_39 : decode cX12_works 39 = .ok (.getfield 40, 3) := by decide +kernel
theorem dX12_works_42 : decode cX12_works 42 = .ok (.iload_n 1, 1) := by decide +kernel
theorem dX12_works_43 : decode cX12_works 43 = .ok (.iaload, 1) := by decide +kernel
theorem dX12_works_44 : decode cX12_works 44 = .ok (.invokevirtual 193, 3) := by decide +kernel
theorem dX12_works_47 : decode cX12_works 47 = .ok (.istore_n 2, 1) := by decide +kernel
theorem dX12_works_48 : decode cX12_works 48 = .ok (.aload_n 0, 1) := by decide +kernel
theorem dX12_works_49 : decode cX12_works 49 = .ok (.getfield 40, 3) := by decide +kernel
theorem dX12_works_52 : decode cX12_works 52 = .ok (.iload_n 1, 1) := by decide +kernel
theorem dX12_works_53 : decode cX12_works 53 = .ok (.dup2, 1) := by decide +kernel
theorem dX12_works_54 : decode cX12_works 54 = .ok (.iaload, 1) := by decide +kernel
theorem dX12_works_55 : decode cX12_works 55 = .ok (.iconst 1, 1) := by decide +kernel
theorem dX12_works_56 : decode cX12_works 56 = .ok (.isub, 1) := by decide +kernel
theorem dX12_works_57 : decode cX12_works 57 = .ok (.iastore, 1) := by decide +kernel
theorem dX12_works_58 : decode cX12_works 58 = .ok (.aload_n 0, 1) := by decide +kernel
theorem dX12_works_59 : decode cX12_works 59 = .ok (.iload_n 1, 1) := by decide +kernel
theorem dX12_works_60 : decode cX12_works 60 = .ok (.iload_n 2, 1) := by decide +kernel
theorem dX12_works_61 : decode cX12_works 61 = .ok (.invokevirtual 196, 3) := by decide +kernel
theorem dX12_works_64 : decode cX12_works 64 = .ok (.ifCond .ne 6, 3) := by decide +kernel
theorem dX12_works_67 : decode cX12_works 67 = .ok (.bipush (-9), 2) := by decide +kernel
theorem dX12_works_69 : decode cX12_works 69 = .ok (.ireturn, 1) := by decide +kernel
theorem dX12_works_70 : decode cX12_works 70 = .ok (.goto (-70), 3) := by decide +kernel
theorem dX12_works_73 : decode cX12_works 73 = .ok (.aload_n 0, 1) := by decide +kernel
theorem dX12_works_74 : decode cX12_works 74 = .ok (.getfield 34, 3) := by decide +kernel
theorem dX12_works_77 : decode cX12_works 77 = .ok (.iconst 0, 1) := by decide +kernel
theorem dX12_works_78 : decode cX12_works 78 = .ok (.iaload, 1) := by decide +kernel
theorem dX12_works_79 : decode cX12_works 79 = .ok (.ireturn, 1) := by decide +kernel
theorem dX12_valueOf_0 : decode cX12_valueOf 0 = .ok (.aload_n 0, 1) := by decide +kernel
theorem dX12_valueOf_1 : decode cX12_valueOf 1 = .ok (.iconst 0, 1) := by decide +kernel
theorem dX12_valueOf_2 : decode cX12_valueOf 2 = .ok (.putfield 187, 3) := by decide +kernel
theorem dX12_valueOf_5 : decode cX12_valueOf 5 = .ok (.aload_n 0, 1) := by decide +kernel
theorem dX12_valueOf_6 : decode cX12_valueOf 6 = .ok (.iconst 0, 1) := by decide +kernel
theorem dX12_valueOf_7 : decode cX12_valueOf 7 = .ok (.putfield 180, 3) := by decide +kernel
theorem dX12_valueOf_10 : decode cX12_valueOf 10 = .ok (.aload_n 0, 1) := by decide +kernel
theorem dX12_valueOf_11 : decode cX12_valueOf 11 = .ok (.iconst 0, 1) := by decide +kernel
theorem dX12_valueOf_12 : decode cX12_valueOf 12 = .ok (.putfield 177, 3) := by decide +kernel
theorem dX12_valueOf_15 : decode cX12_valueOf 15 = .ok (.aload_n 0, 1) := by decide +kernel
theorem dX12_valueOf_16 : decode cX12_valueOf 16 = .ok (.iload_n 1, 1) := by decide +kernel
theorem dX12_valueOf_17 : decode cX12_valueOf 17 = .ok (.aload_n 0, 1) := by decide +kernel
theorem dX12_valueOf_18 : decode cX12_valueOf 18 = .ok (.getfield 13, 3) := by decide +kernel
theorem dX12_valueOf_21 : decode cX12_valueOf 21 = .ok (.iload_n 1, 1) := by decide +kernel
theorem dX12_valueOf_22 : decode cX12_valueOf 22 = .ok (.iaload, 1) := by decide +kernel
theorem dX12_valueOf_23 : decode cX12_valueOf 23 = .ok (.iload_n 2, 1) := by decide +kernel
theorem dX12_valueOf_24 : decode cX12_valueOf 24 = .ok (.iload_n 3, 1) := by decide +kernel
theorem dX12_valueOf_25 : decode cX12_valueOf 25 = .ok (.iload 4, 2) := by decide +kernel
theorem dX12_valueOf_27 : decode cX12_valueOf 27 = .ok (.invokevirtual 183, 3) := by decide +kernel
theorem dX12_valueOf_30 : decode cX12_valueOf 30 = .ok (.aload_n 0, 1) := by decide +kernel
theorem dX12_valueOf_31 : decode cX12_valueOf 31 = .ok (.invokevirtual 199, 3) := by decide +kernel
theorem dX12_valueOf_34 : decode cX12_valueOf 34 = .ok (.ireturn, 1) := by decide +kernel
theorem dX12_value_0 : decode cX12_value 0 = .ok (.aload_n 0, 1) := by decide +kernel
theorem dX12_value_1 : decode cX12_value 1 = .ok (.iload_n 1, 1) := by decide +kernel
theorem dX12_value_2 : decode cX12_value 2 = .ok (.invokevirtual 144, 3) := by decide +kernel
theorem dX12_value_5 : decode cX12_value 5 = .ok (.ifCond .ne 5, 3) := by decide +kernel
theorem dX12_value_8 : decode cX12_value 8 = .ok (.iconst (-1), 1) := by decide +kernel
theorem dX12_value_9 : decode cX12_value 9 = .ok (.ireturn, 1) := by decide +kernel
theorem dX12_value_10 : decode cX12_value 10 = .ok (.iload_n 2, 1) := by decide +kernel
theorem dX12_value_11 : decode cX12_value 11 = .ok (.iconst 0, 1) := by decide +kernel
theorem dX12_value_12 : decode cX12_value 12 = .ok (.bipush 9, 2) := by decide +kernel
theorem dX12_value_14 : decode cX12_value 14 = .ok (.invokestatic 96, 3) := by decide +kernel
theorem dX12_value_17 : decode cX12_value 17 = .ok (.ifCond .eq 33, 3) := by decide +kernel
theorem dX12_value_20 : decode cX12_value 20 = .ok (.aload_n 0, 1) := by decide +kernel
theorem dX12_value_21 : decode cX12_value 21 = .ok (.getfield 19, 3) := by decide +kernel
theorem dX12_value_24 : decode cX12_value 24 = .ok (.iload_n 1, 1) := by decide +kernel
theorem dX12_value_25 : decode cX12_value 25 = .ok (.iaload, 1) := by decide +kernel
theorem dX12_value_26 : decode cX12_value 26 = .ok (.iconst 2, 1) := by decide +kernel
theorem dX12_value_27 : decode cX12_value 27 = .ok (.if_icmp .ne 13, 3) := by decide +kernel
theorem dX12_value_30 : decode cX12_value 30 = .ok (.iload_n 3, 1) := by decide +kernel
theorem dX12_value_31 : decode cX12_value 31 = .ok (.iconst 0, 1) := by decide +kernel
theorem dX12_value_32 : decode cX12_value 32 = .ok (.bipush 9, 2) := by decide +kernel
theorem dX12_value_34 : decode cX12_value 34 = .ok (.invokestatic 96, 3) := by decide +kernel
theorem dX12_value_37 : decode cX12_value 37 = .ok (.ifCond .eq 13, 3) := by decide +kernel
theorem dX12_value_40 : decode cX12_value 40 = .ok (.iload 4, 2) := by decide +kernel
theorem dX12_value_42 : decode cX12_value 42 = .ok (.iconst 0, 1) := by decide +kernel
theorem dX12_value_43 : decode cX12_value 43 = .ok (.iconst 1, 1) := by decide +kernel
theorem dX12_value_44 : decode cX12_value 44 = .ok (.invokestatic 96, 3) := by decide +kernel
theorem dX12_value_47 : decode cX12_value 47 = .ok (.ifCond .ne 6, 3) := by decide +kernel
theorem dX12_value_50 : decode cX12_value 50 = .ok (.bipush (-2), 2) := by decide +kernel
theorem dX12_value_52 : decode cX12_value 52 = .ok (.ireturn, 1) := by decide +kernel
theorem dX12_value_53 : decode cX12_value 53 = .ok (.aload_n 0, 1) := by decide +kernel
theorem dX12_value_54 : decode cX12_value 54 = .ok (.iconst 0, 1) := by decide +kernel
theorem dX12_value_55 : decode cX12_value 55 = .ok (.putfield 187, 3) := by decide +kernel
theorem dX12_value_58 : decode cX12_value 58 = .ok (.aload_n 0, 1) := by decide +kernel
theorem dX12_value_59 : decode cX12_value 59 = .ok (.iconst 0, 1) := by decide +kernel
theorem dX12_value_60 : decode cX12_value 60 = .ok (.putfield 180, 3) := by decide +kernel
theorem dX12_value_63 : decode cX12_value 63 = .ok (.aload_n 0, 1) := by decide +kernel
theorem dX12_value_64 : decode cX12_value 64 = .ok (.iconst 0, 1) := by decide +kernel
theorem dX12_value_65 : decode cX12_value 65 = .ok (.putfield 177, 3) := by decide +kernel
theorem dX12_value_68 : decode cX12_value 68 = .ok (.aload_n 0, 1) := by decide +kernel
theorem dX12_value_69 : decode cX12_value 69 = .ok (.iload_n 1, 1) := by decide +kernel
theorem dX12_value_70 : decode cX12_value 70 = .ok (.iload_n 2, 1) := by decide +kernel
theorem dX12_value_71 : decode cX12_value 71 = .ok (.iload_n 3, 1) := by decide +kernel
theorem dX12_value_72 : decode cX12_value 72 = .ok (.invokevirtual 190, 3) := by decide +kernel
theorem dX12_value_75 : decode cX12_value 75 = .ok (.pop, 1) := by decide +kernel
theorem dX12_value_76 : decode cX12_value 76 = .ok (.aload_n 0, 1) := by decide +kernel
theorem dX12_value_77 : decode cX12_value 77 = .ok (.invokevirtual 199, 3) := by decide +kernel
theorem dX12_value_80 : decode cX12_value 80 = .ok (.istore 5, 2) := by decide +kernel
theorem dX12_value_82 : decode cX12_value 82 = .ok (.iload 5, 2) := by decide +kernel
theorem dX12_value_84 : decode cX12_value 84 = .ok (.bipush (-9), 2) := by decide +kernel
theorem dX12_value_86 : decode cX12_value 86 = .ok (.if_icmp .ne 8, 3) := by decide +kernel
theorem dX12_value_89 : decode cX12_value 89 = .ok (.bipush (-9), 2) := by decide +kernel
theorem dX12_value_91 : decode cX12_value 91 = .ok (.goto 17, 3) := by decide +kernel
theorem dX12_value_94 : decode cX12_value 94 = .ok (.iload 4, 2) := by decide +kernel
theorem dX12_value_96 : decode cX12_value 96 = .ok (.ifCond .ne 8, 3) := by decide +kernel
theorem dX12_value_99 : decode cX12_value 99 = .ok (.iload 5, 2) := by decide +kernel
theorem dX12_value_101 : decode cX12_value 101 = .ok (.goto 7, 3) := by decide +kernel
theorem dX12_value_104 : decode cX12_value 104 = .ok (.aload_n 0, 1) := by decide +kernel
theorem dX12_value_105 : decode cX12_value 105 = .ok (.getfield 180, 3) := by decide +kernel
theorem dX12_value_108 : decode cX12_value 108 = .ok (.ireturn, 1) := by decide +kernel
theorem dX12_holdsBy_0 : decode cX12_holdsBy 0 = .ok (.aload_n 0, 1) := by decide +kernel
theorem dX12_holdsBy_1 : decode cX12_holdsBy 1 = .ok (.iload_n 1, 1) := by decide +kernel
theorem dX12_holdsBy_2 : decode cX12_holdsBy 2 = .ok (.iload_n 3, 1) := by decide +kernel
theorem dX12_holdsBy_3 : decode cX12_holdsBy 3 = .ok (.iload 4, 2) := by decide +kernel
theorem dX12_holdsBy_5 : decode cX12_holdsBy 5 = .ok (.iload 5, 2) := by decide +kernel
theorem dX12_holdsBy_7 : decode cX12_holdsBy 7 = .ok (.invokevirtual 203, 3) := by decide +kernel
theorem dX12_holdsBy_10 : decode cX12_holdsBy 10 = .ok (.istore 6, 2) := by decide +kernel
theorem dX12_holdsBy_12 : decode cX12_holdsBy 12 = .ok (.iload 6, 2) := by decide +kernel
theorem dX12_holdsBy_14 : decode cX12_holdsBy 14 = .ok (.bipush (-9), 2) := by decide +kernel
theorem dX12_holdsBy_16 : decode cX12_holdsBy 16 = .ok (.if_icmp .ne 8, 3) := by decide +kernel
theorem dX12_holdsBy_19 : decode cX12_holdsBy 19 = .ok (.bipush (-9), 2) := by decide +kernel
theorem dX12_holdsBy_21 : decode cX12_holdsBy 21 = .ok (.goto 13, 3) := by decide +kernel
theorem dX12_holdsBy_24 : decode cX12_holdsBy 24 = .ok (.aload_n 0, 1) := by decide +kernel
theorem dX12_holdsBy_25 : decode cX12_holdsBy 25 = .ok (.iload_n 2, 1) := by decide +kernel
theorem dX12_holdsBy_26 : decode cX12_holdsBy 26 = .ok (.iload_n 3, 1) := by decide +kernel
theorem dX12_holdsBy_27 : decode cX12_holdsBy 27 = .ok (.iload 4, 2) := by decide +kernel
theorem dX12_holdsBy_29 : decode cX12_holdsBy 29 = .ok (.iload 5, 2) := by decide +kernel
theorem dX12_holdsBy_31 : decode cX12_holdsBy 31 = .ok (.invokevirtual 203, 3) := by decide +kernel
theorem dX12_holdsBy_34 : decode cX12_holdsBy 34 = .ok (.istore 7, 2) := by decide +kernel
theorem dX12_holdsBy_36 : decode cX12_holdsBy 36 = .ok (.iload 7, 2) := by decide +kernel
theorem dX12_holdsBy_38 : decode cX12_holdsBy 38 = .ok (.bipush (-9), 2) := by decide +kernel
theorem dX12_holdsBy_40 : decode cX12_holdsBy 40 = .ok (.if_icmp .ne 8, 3) := by decide +kernel
theorem dX12_holdsBy_43 : decode cX12_holdsBy 43 = .ok (.bipush (-9), 2) := by decide +kernel
theorem dX12_holdsBy_45 : decode cX12_holdsBy 45 = .ok (.goto 15, 3) := by decide +kernel
theorem dX12_holdsBy_48 : decode cX12_holdsBy 48 = .ok (.iload 6, 2) := by decide +kernel
theorem dX12_holdsBy_50 : decode cX12_holdsBy 50 = .ok (.iload 7, 2) := by decide +kernel
theorem dX12_holdsBy_52 : decode cX12_holdsBy 52 = .ok (.if_icmp .ne 7, 3) := by decide +kernel
theorem dX12_holdsBy_55 : decode cX12_holdsBy 55 = .ok (.iconst 1, 1) := by decide +kernel
theorem dX12_holdsBy_56 : decode cX12_holdsBy 56 = .ok (.goto 4, 3) := by decide +kernel
theorem dX12_holdsBy_59 : decode cX12_holdsBy 59 = .ok (.iconst 0, 1) := by decide +kernel
theorem dX12_holdsBy_60 : decode cX12_holdsBy 60 = .ok (.ireturn, 1) := by decide +kernel
theorem dX12_holds_0 : decode cX12_holds 0 = .ok (.iload_n 1, 1) := by decide +kernel
theorem dX12_holds_1 : decode cX12_holds 1 = .ok (.iconst 0, 1) := by decide +kernel
theorem dX12_holds_2 : decode cX12_holds 2 = .ok (.iconst 5, 1) := by decide +kernel
theorem dX12_holds_3 : decode cX12_holds 3 = .ok (.invokestatic 96, 3) := by decide +kernel
theorem dX12_holds_6 : decode cX12_holds 6 = .ok (.ifCond .eq 21, 3) := by decide +kernel
theorem dX12_holds_9 : decode cX12_holds 9 = .ok (.iload_n 2, 1) := by decide +kernel
theorem dX12_holds_10 : decode cX12_holds 10 = .ok (.iconst 0, 1) := by decide +kernel
theorem dX12_holds_11 : decode cX12_holds 11 = .ok (.iconst 5, 1) := by decide +kernel
theorem dX12_holds_12 : decode cX12_holds 12 = .ok (.invokestatic 96, 3) := by decide +kernel
theorem dX12_holds_15 : decode cX12_holds 15 = .ok (.ifCond .eq 12, 3) := by decide +kernel
theorem dX12_holds_18 : decode cX12_holds 18 = .ok (.iload_n 3, 1) := by decide +kernel
theorem dX12_holds_19 : decode cX12_holds 19 = .ok (.iconst 0, 1) := by decide +kernel
theorem dX12_holds_20 : decode cX12_holds 20 = .ok (.iconst 5, 1) := by decide +kernel
theorem dX12_holds_21 : decode cX12_holds 21 = .ok (.invokestatic 96, 3) := by decide +kernel
theorem dX12_holds_24 : decode cX12_holds 24 = .ok (.ifCond .ne 6, 3) := by decide +kernel
theorem dX12_holds_27 : decode cX12_holds 27 = .ok (.bipush (-2), 2) := by decide +kernel
theorem dX12_holds_29 : decode cX12_holds 29 = .ok (.ireturn, 1) := by decide +kernel
theorem dX12_holds_30 : decode cX12_holds 30 = .ok (.aload_n 0, 1) := by decide +kernel
theorem dX12_holds_31 : decode cX12_holds 31 = .ok (.getfield 164, 3) := by decide +kernel
theorem dX12_holds_34 : decode cX12_holds 34 = .ok (.ifCond .eq 15, 3) := by decide +kernel
theorem dX12_holds_37 : decode cX12_holds 37 = .ok (.aload_n 0, 1) := by decide +kernel
theorem dX12_holds_38 : decode cX12_holds 38 = .ok (.iconst 0, 1) := by decide +kernel
theorem dX12_holds_39 : decode cX12_holds 39 = .ok (.iconst 1, 1) := by decide +kernel
theorem dX12_holds_40 : decode cX12_holds 40 = .ok (.iload_n 1, 1) := by decide +kernel
theorem dX12_holds_41 : decode cX12_holds 41 = .ok (.iload_n 2, 1) := by decide +kernel
theorem dX12_holds_42 : decode cX12_holds 42 = .ok (.iload_n 3, 1) := by decide +kernel
theorem dX12_holds_43 : decode cX12_holds 43 = .ok (.invokevirtual 207, 3) := by decide +kernel
theorem dX12_holds_46 : decode cX12_holds 46 = .ok (.goto 5, 3) := by decide +kernel
theorem dX12_holds_49 : decode cX12_holds 49 = .ok (.bipush (-3), 2) := by decide +kernel
theorem dX12_holds_51 : decode cX12_holds 51 = .ok (.ireturn, 1) := by decide +kernel
theorem dX12_upTo_0 : decode cX12_upTo 0 = .ok (.aload_n 0, 1) := by decide +kernel
theorem dX12_upTo_1 : decode cX12_upTo 1 = .ok (.iload_n 1, 1) := by decide +kernel
theorem dX12_upTo_2 : decode cX12_upTo 2 = .ok (.bipush 120, 2) := by decide +kernel
theorem dX12_upTo_4 : decode cX12_upTo 4 = .ok (.iload_n 3, 1) := by decide +kernel
theorem dX12_upTo_5 : decode cX12_upTo 5 = .ok (.iadd, 1) := by decide +kernel
theorem dX12_upTo_6 : decode cX12_upTo 6 = .ok (.invokevirtual 211, 3) := by decide +kernel
theorem dX12_upTo_9 : decode cX12_upTo 9 = .ok (.ifCond .ne 15, 3) := by decide +kernel
theorem dX12_upTo_12 : decode cX12_upTo 12 = .ok (.aload_n 0, 1) := by decide +kernel
theorem dX12_upTo_13 : decode cX12_upTo 13 = .ok (.iload_n 2, 1) := by decide +kernel
theorem dX12_upTo_14 : decode cX12_upTo 14 = .ok (.bipush 120, 2) := by decide +kernel
theorem dX12_upTo_16 : decode cX12_upTo 16 = .ok (.iload_n 3, 1) := by decide +kernel
theorem dX12_upTo_17 : decode cX12_upTo 17 = .ok (.iadd, 1) := by decide +kernel
theorem dX12_upTo_18 : decode cX12_upTo 18 = .ok (.invokevirtual 211, 3) := by decide +kernel
theorem dX12_upTo_21 : decode cX12_upTo 21 = .ok (.ifCond .eq 7, 3) := by decide +kernel
theorem dX12_upTo_24 : decode cX12_upTo 24 = .ok (.iconst 2, 1) := by decide +kernel
theorem dX12_upTo_25 : decode cX12_upTo 25 = .ok (.goto 4, 3) := by decide +kernel
theorem dX12_upTo_28 : decode cX12_upTo 28 = .ok (.iconst 0, 1) := by decide +kernel
theorem dX12_upTo_29 : decode cX12_upTo 29 = .ok (.ireturn, 1) := by decide +kernel
theorem dX12_counterexample_0 : decode cX12_counterexample 0 = .ok (.iconst 0, 1) := by decide +kernel
theorem dX12_counterexample_1 : decode cX12_counterexample 1 = .ok (.istore_n 3, 1) := by decide +kernel
theorem dX12_counterexample_2 : decode cX12_counterexample 2 = .ok (.iload_n 3, 1) := by decide +kernel
theorem dX12_counterexample_3 : decode cX12_counterexample 3 = .ok (.aload_n 0, 1) := by decide +kernel
theorem dX12_counterexample_4 : decode cX12_counterexample 4 = .ok (.iload_n 1, 1) := by decide +kernel
theorem dX12_counterexample_5 : decode cX12_counterexample 5 = .ok (.iload_n 2, 1) := by decide +kernel
theorem dX12_counterexample_6 : decode cX12_counterexample 6 = .ok (.iconst 0, 1) := by decide +kernel
theorem dX12_counterexample_7 : decode cX12_counterexample 7 = .ok (.invokevirtual 214, 3) := by decide +kernel
theorem dX12_counterexample_10 : decode cX12_counterexample 10 = .ok (.if_icmp .gt 78, 3) := by decide +kernel
theorem dX12_counterexample_13 : decode cX12_counterexample 13 = .ok (.iconst 0, 1) := by decide +kernel
theorem dX12_counterexample_14 : decode cX12_counterexample 14 = .ok (.istore 4, 2) := by decide +kernel
theorem dX12_counterexample_16 : decode cX12_counterexample 16 = .ok (.iload 4, 2) := by decide +kernel
theorem dX12_counterexample_18 : decode cX12_counterexample 18 = .ok (.aload_n 0, 1) := by decide +kernel
theorem dX12_counterexample_19 : decode cX12_counterexample 19 = .ok (.iload_n 1, 1) := by decide +kernel
theorem dX12_counterexample_20 : decode cX12_counterexample 20 = .ok (.iload_n 2, 1) := by decide +kernel
theorem dX12_counterexample_21 : decode cX12_counterexample 21 = .ok (.iconst 1, 1) := by decide +kernel
theorem dX12_counterexample_22 : decode cX12_counterexample 22 = .ok (.invokevirtual 214, 3) := by decide +kernel
theorem dX12_counterexample_25 : decode cX12_counterexample 25 = .ok (.if_icmp .gt 57, 3) := by decide +kernel
theorem dX12_counterexample_28 : decode cX12_counterexample 28 = .ok (.iconst 0, 1) := by decide +kernel
theorem dX12_counterexample_29 : decode cX12_counterexample 29 = .ok (.istore 5, 2) := by decide +kernel
theorem dX12_counterexample_31 : decode cX12_counterexample 31 = .ok (.iload 5, 2) := by decide +kernel
theorem dX12_counterexample_33 : decode cX12_counterexample 33 = .ok (.aload_n 0, 1) := by decide +kernel
theorem dX12_counterexample_34 : decode cX12_counterexample 34 = .ok (.iload_n 1, 1) := by decide +kernel
theorem dX12_counterexample_35 : decode cX12_counterexample 35 = .ok (.iload_n 2, 1) := by decide +kernel
theorem dX12_counterexample_36 : decode cX12_counterexample 36 = .ok (.iconst 2, 1) := by decide +kernel
theorem dX12_counterexample_37 : decode cX12_counterexample 37 = .ok (.invokevirtual 214, 3) := by decide +kernel
