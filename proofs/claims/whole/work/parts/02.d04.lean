theorem dX5_replace_112 : decode cX5_replace 112 = .ok (.iaload, 1) := by decide +kernel
theorem dX5_replace_113 : decode cX5_replace 113 = .ok (.invokevirtual 42, 3) := by decide +kernel
theorem dX5_replace_116 : decode cX5_replace 116 = .ok (.goto 10, 3) := by decide +kernel
theorem dX5_replace_119 : decode cX5_replace 119 = .ok (.aload 4, 2) := by decide +kernel
theorem dX5_replace_121 : decode cX5_replace 121 = .ok (.iload 7, 2) := by decide +kernel
theorem dX5_replace_123 : decode cX5_replace 123 = .ok (.invokevirtual 46, 3) := by decide +kernel
theorem dX5_replace_126 : decode cX5_replace 126 = .ok (.istore 5, 2) := by decide +kernel
theorem dX5_replace_128 : decode cX5_replace 128 = .ok (.iinc 6 1, 3) := by decide +kernel
theorem dX5_replace_131 : decode cX5_replace 131 = .ok (.goto (-99), 3) := by decide +kernel
theorem dX5_replace_134 : decode cX5_replace 134 = .ok (.iload 5, 2) := by decide +kernel
theorem dX5_replace_136 : decode cX5_replace 136 = .ok (.ifCond .eq 26, 3) := by decide +kernel
theorem dX5_replace_139 : decode cX5_replace 139 = .ok (.aload 4, 2) := by decide +kernel
theorem dX5_replace_141 : decode cX5_replace 141 = .ok (.aload_n 2, 1) := by decide +kernel
theorem dX5_replace_142 : decode cX5_replace 142 = .ok (.aload_n 2, 1) := by decide +kernel
theorem dX5_replace_143 : decode cX5_replace 143 = .ok (.getfield 32, 3) := by decide +kernel
theorem dX5_replace_146 : decode cX5_replace 146 = .ok (.iload_n 3, 1) := by decide +kernel
theorem dX5_replace_147 : decode cX5_replace 147 = .ok (.iaload, 1) := by decide +kernel
theorem dX5_replace_148 : decode cX5_replace 148 = .ok (.aload_n 2, 1) := by decide +kernel
theorem dX5_replace_149 : decode cX5_replace 149 = .ok (.getfield 19, 3) := by decide +kernel
theorem dX5_replace_152 : decode cX5_replace 152 = .ok (.invokevirtual 42, 3) := by decide +kernel
theorem dX5_replace_155 : decode cX5_replace 155 = .ok (.ifCond .eq 7, 3) := by decide +kernel
theorem dX5_replace_158 : decode cX5_replace 158 = .ok (.iconst 1, 1) := by decide +kernel
theorem dX5_replace_159 : decode cX5_replace 159 = .ok (.goto 4, 3) := by decide +kernel
theorem dX5_replace_162 : decode cX5_replace 162 = .ok (.iconst 0, 1) := by decide +kernel
theorem dX5_replace_163 : decode cX5_replace 163 = .ok (.istore 5, 2) := by decide +kernel
theorem dX5_replace_165 : decode cX5_replace 165 = .ok (.iload 5, 2) := by decide +kernel
theorem dX5_replace_167 : decode cX5_replace 167 = .ok (.ifCond .eq 15, 3) := by decide +kernel
theorem dX5_replace_170 : decode cX5_replace 170 = .ok (.aload 4, 2) := by decide +kernel
theorem dX5_replace_172 : decode cX5_replace 172 = .ok (.aload_n 0, 1) := by decide +kernel
theorem dX5_replace_173 : decode cX5_replace 173 = .ok (.getfield 15, 3) := by decide +kernel
theorem dX5_replace_176 : decode cX5_replace 176 = .ok (.getfield 50, 3) := by decide +kernel
theorem dX5_replace_179 : decode cX5_replace 179 = .ok (.invokevirtual 55, 3) := by decide +kernel
theorem dX5_replace_182 : decode cX5_replace 182 = .ok (.iload 5, 2) := by decide +kernel
theorem dX5_replace_184 : decode cX5_replace 184 = .ok (.ireturn, 1) := by decide +kernel
theorem dX6_init_0 : decode cX6_init 0 = .ok (.aload_n 0, 1) := by decide +kernel
theorem dX6_init_1 : decode cX6_init 1 = .ok (.invokespecial 5, 3) := by decide +kernel
theorem dX6_init_4 : decode cX6_init 4 = .ok (.aload_n 0, 1) := by decide +kernel
theorem dX6_init_5 : decode cX6_init 5 = .ok (.sipush 546, 3) := by decide +kernel
theorem dX6_init_8 : decode cX6_init 8 = .ok (.newarray .int, 2) := by decide +kernel
theorem dX6_init_10 : decode cX6_init 10 = .ok (.putfield 11, 3) := by decide +kernel
theorem dX6_init_13 : decode cX6_init 13 = .ok (.aload_n 0, 1) := by decide +kernel
theorem dX6_init_14 : decode cX6_init 14 = .ok (.sipush 546, 3) := by decide +kernel
theorem dX6_init_17 : decode cX6_init 17 = .ok (.newarray .int, 2) := by decide +kernel
theorem dX6_init_19 : decode cX6_init 19 = .ok (.putfield 15, 3) := by decide +kernel
theorem dX6_init_22 : decode cX6_init 22 = .ok (.aload_n 0, 1) := by decide +kernel
theorem dX6_init_23 : decode cX6_init 23 = .ok (.sipush 546, 3) := by decide +kernel
theorem dX6_init_26 : decode cX6_init 26 = .ok (.newarray .int, 2) := by decide +kernel
theorem dX6_init_28 : decode cX6_init 28 = .ok (.putfield 18, 3) := by decide +kernel
theorem dX6_init_31 : decode cX6_init 31 = .ok (.aload_n 0, 1) := by decide +kernel
theorem dX6_init_32 : decode cX6_init 32 = .ok (.sipush 546, 3) := by decide +kernel
theorem dX6_init_35 : decode cX6_init 35 = .ok (.newarray .int, 2) := by decide +kernel
theorem dX6_init_37 : decode cX6_init 37 = .ok (.putfield 21, 3) := by decide +kernel
theorem dX6_init_40 : decode cX6_init 40 = .ok (.aload_n 0, 1) := by decide +kernel
theorem dX6_init_41 : decode cX6_init 41 = .ok (.bipush 51, 2) := by decide +kernel
theorem dX6_init_43 : decode cX6_init 43 = .ok (.anewarray 24, 3) := by decide +kernel
theorem dX6_init_46 : decode cX6_init 46 = .ok (.putfield 26, 3) := by decide +kernel
theorem dX6_init_49 : decode cX6_init 49 = .ok (.aload_n 0, 1) := by decide +kernel
theorem dX6_init_50 : decode cX6_init 50 = .ok (.bipush 51, 2) := by decide +kernel
theorem dX6_init_52 : decode cX6_init 52 = .ok (.newarray .int, 2) := by decide +kernel
theorem dX6_init_54 : decode cX6_init 54 = .ok (.putfield 30, 3) := by decide +kernel
theorem dX6_init_57 : decode cX6_init 57 = .ok (.aload_n 0, 1) := by decide +kernel
theorem dX6_init_58 : decode cX6_init 58 = .ok (.bipush 51, 2) := by decide +kernel
theorem dX6_init_60 : decode cX6_init 60 = .ok (.newarray .int, 2) := by decide +kernel
theorem dX6_init_62 : decode cX6_init 62 = .ok (.putfield 33, 3) := by decide +kernel
theorem dX6_init_65 : decode cX6_init 65 = .ok (.aload_n 0, 1) := by decide +kernel
theorem dX6_init_66 : decode cX6_init 66 = .ok (.bipush 51, 2) := by decide +kernel
theorem dX6_init_68 : decode cX6_init 68 = .ok (.newarray .int, 2) := by decide +kernel
theorem dX6_init_70 : decode cX6_init 70 = .ok (.putfield 36, 3) := by decide +kernel
theorem dX6_init_73 : decode cX6_init 73 = .ok (.aload_n 0, 1) := by decide +kernel
theorem dX6_init_74 : decode cX6_init 74 = .ok (.sipush 540, 3) := by decide +kernel
theorem dX6_init_77 : decode cX6_init 77 = .ok (.newarray .int, 2) := by decide +kernel
theorem dX6_init_79 : decode cX6_init 79 = .ok (.putfield 39, 3) := by decide +kernel
theorem dX6_init_82 : decode cX6_init 82 = .ok (.aload_n 0, 1) := by decide +kernel
theorem dX6_init_83 : decode cX6_init 83 = .ok (.iconst 3, 1) := by decide +kernel
theorem dX6_init_84 : decode cX6_init 84 = .ok (.newarray .int, 2) := by decide +kernel
theorem dX6_init_86 : decode cX6_init 86 = .ok (.putfield 42, 3) := by decide +kernel
theorem dX6_init_89 : decode cX6_init 89 = .ok (.aload_n 0, 1) := by decide +kernel
theorem dX6_init_90 : decode cX6_init 90 = .ok (.aload_n 1, 1) := by decide +kernel
theorem dX6_init_91 : decode cX6_init 91 = .ok (.putfield 45, 3) := by decide +kernel
theorem dX6_init_94 : decode cX6_init 94 = .ok (.aload_n 0, 1) := by decide +kernel
theorem dX6_init_95 : decode cX6_init 95 = .ok (.getfield 11, 3) := by decide +kernel
theorem dX6_init_98 : decode cX6_init 98 = .ok (.iconst 0, 1) := by decide +kernel
theorem dX6_init_99 : decode cX6_init 99 = .ok (.bipush 90, 2) := by decide +kernel
theorem dX6_init_101 : decode cX6_init 101 = .ok (.iastore, 1) := by decide +kernel
theorem dX6_init_102 : decode cX6_init 102 = .ok (.aload_n 0, 1) := by decide +kernel
theorem dX6_init_103 : decode cX6_init 103 = .ok (.getfield 21, 3) := by decide +kernel
theorem dX6_init_106 : decode cX6_init 106 = .ok (.iconst 0, 1) := by decide +kernel
theorem dX6_init_107 : decode cX6_init 107 = .ok (.iconst 1, 1) := by decide +kernel
theorem dX6_init_108 : decode cX6_init 108 = .ok (.iastore, 1) := by decide +kernel
theorem dX6_init_109 : decode cX6_init 109 = .ok (.iconst 0, 1) := by decide +kernel
theorem dX6_init_110 : decode cX6_init 110 = .ok (.istore_n 2, 1) := by decide +kernel
theorem dX6_init_111 : decode cX6_init 111 = .ok (.iload_n 2, 1) := by decide +kernel
theorem dX6_init_112 : decode cX6_init 112 = .ok (.iconst 3, 1) := by decide +kernel
theorem dX6_init_113 : decode cX6_init 113 = .ok (.if_icmp .ge 30, 3) := by decide +kernel
theorem dX6_init_116 : decode cX6_init 116 = .ok (.aload_n 0, 1) := by decide +kernel
theorem dX6_init_117 : decode cX6_init 117 = .ok (.getfield 11, 3) := by decide +kernel
theorem dX6_init_120 : decode cX6_init 120 = .ok (.iconst 1, 1) := by decide +kernel
theorem dX6_init_121 : decode cX6_init 121 = .ok (.iload_n 2, 1) := by decide +kernel
theorem dX6_init_122 : decode cX6_init 122 = .ok (.iadd, 1) := by decide +kernel
theorem dX6_init_123 : decode cX6_init 123 = .ok (.bipush 120, 2) := by decide +kernel
theorem dX6_init_125 : decode cX6_init 125 = .ok (.iload_n 2, 1) := by decide +kernel
theorem dX6_init_126 : decode cX6_init 126 = .ok (.iadd, 1) := by decide +kernel
theorem dX6_init_127 : decode cX6_init 127 = .ok (.iastore, 1) := by decide +kernel
theorem dX6_init_128 : decode cX6_init 128 = .ok (.aload_n 0, 1) := by decide +kernel
theorem dX6_init_129 : decode cX6_init 129 = .ok (.getfield 21, 3) := by decide +kernel
theorem dX6_init_132 : decode cX6_init 132 = .ok (.iconst 1, 1) := by decide +kernel
theorem dX6_init_133 : decode cX6_init 133 = .ok (.iload_n 2, 1) := by decide +kernel
theorem dX6_init_134 : decode cX6_init 134 = .ok (.iadd, 1) := by decide +kernel
theorem dX6_init_135 : decode cX6_init 135 = .ok (.iconst 1, 1) := by decide +kernel
theorem dX6_init_136 : decode cX6_init 136 = .ok (.iastore, 1) := by decide +kernel
theorem dX6_init_137 : decode cX6_init 137 = .ok (.iinc 2 1, 3) := by decide +kernel
theorem dX6_init_140 : decode cX6_init 140 = .ok (.goto (-29), 3) := by decide +kernel
theorem dX6_init_143 : decode cX6_init 143 = .ok (.return_, 1) := by decide +kernel
theorem dX6_rewrite_0 : decode cX6_rewrite 0 = .ok (.aload_n 0, 1) := by decide +kernel
theorem dX6_rewrite_1 : decode cX6_rewrite 1 = .ok (.iconst 4, 1) := by decide +kernel
theorem dX6_rewrite_2 : decode cX6_rewrite 2 = .ok (.putfield 49, 3) := by decide +kernel
theorem dX6_rewrite_5 : decode cX6_rewrite 5 = .ok (.iconst 0, 1) := by decide +kernel
theorem dX6_rewrite_6 : decode cX6_rewrite 6 = .ok (.istore 6, 2) := by decide +kernel
theorem dX6_rewrite_8 : decode cX6_rewrite 8 = .ok (.iload 6, 2) := by decide +kernel
theorem dX6_rewrite_10 : decode cX6_rewrite 10 = .ok (.iconst 3, 1) := by decide +kernel
theorem dX6_rewrite_11 : decode cX6_rewrite 11 = .ok (.if_icmp .ge 20, 3) := by decide +kernel
theorem dX6_rewrite_14 : decode cX6_rewrite 14 = .ok (.aload_n 0, 1) := by decide +kernel
theorem dX6_rewrite_15 : decode cX6_rewrite 15 = .ok (.getfield 42, 3) := by decide +kernel
theorem dX6_rewrite_18 : decode cX6_rewrite 18 = .ok (.iload 6, 2) := by decide +kernel
theorem dX6_rewrite_20 : decode cX6_rewrite 20 = .ok (.iconst 1, 1) := by decide +kernel
theorem dX6_rewrite_21 : decode cX6_rewrite 21 = .ok (.iload 6, 2) := by decide +kernel
theorem dX6_rewrite_23 : decode cX6_rewrite 23 = .ok (.iadd, 1) := by decide +kernel
theorem dX6_rewrite_24 : decode cX6_rewrite 24 = .ok (.iastore, 1) := by decide +kernel
theorem dX6_rewrite_25 : decode cX6_rewrite 25 = .ok (.iinc 6 1, 3) := by decide +kernel
theorem dX6_rewrite_28 : decode cX6_rewrite 28 = .ok (.goto (-20), 3) := by decide +kernel
theorem dX6_rewrite_31 : decode cX6_rewrite 31 = .ok (.iload_n 3, 1) := by decide +kernel
theorem dX6_rewrite_32 : decode cX6_rewrite 32 = .ok (.ifCond .lt 65, 3) := by decide +kernel
theorem dX6_rewrite_35 : decode cX6_rewrite 35 = .ok (.iload_n 3, 1) := by decide +kernel
theorem dX6_rewrite_36 : decode cX6_rewrite 36 = .ok (.iconst 3, 1) := by decide +kernel
theorem dX6_rewrite_37 : decode cX6_rewrite 37 = .ok (.if_icmp .ge 60, 3) := by decide +kernel
theorem dX6_rewrite_40 : decode cX6_rewrite 40 = .ok (.iload 5, 2) := by decide +kernel
theorem dX6_rewrite_42 : decode cX6_rewrite 42 = .ok (.ifCond .eq 9, 3) := by decide +kernel
theorem dX6_rewrite_45 : decode cX6_rewrite 45 = .ok (.iconst 1, 1) := by decide +kernel
theorem dX6_rewrite_46 : decode cX6_rewrite 46 = .ok (.iload_n 3, 1) := by decide +kernel
theorem dX6_rewrite_47 : decode cX6_rewrite 47 = .ok (.iadd, 1) := by decide +kernel
theorem dX6_rewrite_48 : decode cX6_rewrite 48 = .ok (.goto 4, 3) := by decide +kernel
theorem dX6_rewrite_51 : decode cX6_rewrite 51 = .ok (.iconst 0, 1) := by decide +kernel
theorem dX6_rewrite_52 : decode cX6_rewrite 52 = .ok (.istore 6, 2) := by decide +kernel
theorem dX6_rewrite_54 : decode cX6_rewrite 54 = .ok (.iconst 0, 1) := by decide +kernel
theorem dX6_rewrite_55 : decode cX6_rewrite 55 = .ok (.istore 7, 2) := by decide +kernel
theorem dX6_rewrite_57 : decode cX6_rewrite 57 = .ok (.iload 7, 2) := by decide +kernel
theorem dX6_rewrite_59 : decode cX6_rewrite 59 = .ok (.iload 4, 2) := by decide +kernel
theorem dX6_rewrite_61 : decode cX6_rewrite 61 = .ok (.if_icmp .ge 28, 3) := by decide +kernel
theorem dX6_rewrite_64 : decode cX6_rewrite 64 = .ok (.iload 6, 2) := by decide +kernel
theorem dX6_rewrite_66 : decode cX6_rewrite 66 = .ok (.bipush (-9), 2) := by decide +kernel
theorem dX6_rewrite_68 : decode cX6_rewrite 68 = .ok (.if_icmp .eq 21, 3) := by decide +kernel
theorem dX6_rewrite_71 : decode cX6_rewrite 71 = .ok (.aload_n 0, 1) := by decide +kernel
theorem dX6_rewrite_72 : decode cX6_rewrite 72 = .ok (.bipush 83, 2) := by decide +kernel
theorem dX6_rewrite_74 : decode cX6_rewrite 74 = .ok (.iload 6, 2) := by decide +kernel
theorem dX6_rewrite_76 : decode cX6_rewrite 76 = .ok (.iload 6, 2) := by decide +kernel
theorem dX6_rewrite_78 : decode cX6_rewrite 78 = .ok (.invokevirtual 53, 3) := by decide +kernel
theorem dX6_rewrite_81 : decode cX6_rewrite 81 = .ok (.istore 6, 2) := by decide +kernel
theorem dX6_rewrite_83 : decode cX6_rewrite 83 = .ok (.iinc 7 1, 3) := by decide +kernel
theorem dX6_rewrite_86 : decode cX6_rewrite 86 = .ok (.goto (-29), 3) := by decide +kernel
theorem dX6_rewrite_89 : decode cX6_rewrite 89 = .ok (.aload_n 0, 1) := by decide +kernel
theorem dX6_rewrite_90 : decode cX6_rewrite 90 = .ok (.getfield 42, 3) := by decide +kernel
theorem dX6_rewrite_93 : decode cX6_rewrite 93 = .ok (.iload_n 3, 1) := by decide +kernel
theorem dX6_rewrite_94 : decode cX6_rewrite 94 = .ok (.iload 6, 2) := by decide +kernel
theorem dX6_rewrite_96 : decode cX6_rewrite 96 = .ok (.iastore, 1) := by decide +kernel
theorem dX6_rewrite_97 : decode cX6_rewrite 97 = .ok (.aload_n 0, 1) := by decide +kernel
theorem dX6_rewrite_98 : decode cX6_rewrite 98 = .ok (.aload_n 1, 1) := by decide +kernel
theorem dX6_rewrite_99 : decode cX6_rewrite 99 = .ok (.invokevirtual 57, 3) := by decide +kernel
theorem dX6_rewrite_102 : decode cX6_rewrite 102 = .ok (.ifCond .ne 5, 3) := by decide +kernel
theorem dX6_rewrite_105 : decode cX6_rewrite 105 = .ok (.iconst 0, 1) := by decide +kernel
theorem dX6_rewrite_106 : decode cX6_rewrite 106 = .ok (.ireturn, 1) := by decide +kernel
theorem dX6_rewrite_107 : decode cX6_rewrite 107 = .ok (.aload_n 0, 1) := by decide +kernel
theorem dX6_rewrite_108 : decode cX6_rewrite 108 = .ok (.aload_n 2, 1) := by decide +kernel
theorem dX6_rewrite_109 : decode cX6_rewrite 109 = .ok (.invokevirtual 61, 3) := by decide +kernel
theorem dX6_rewrite_112 : decode cX6_rewrite 112 = .ok (.iconst 1, 1) := by decide +kernel
theorem dX6_rewrite_113 : decode cX6_rewrite 113 = .ok (.ireturn, 1) := by decide +kernel
theorem dX6_run_0 : decode cX6_run 0 = .ok (.aload_n 0, 1) := by decide +kernel
theorem dX6_run_1 : decode cX6_run 1 = .ok (.iconst 0, 1) := by decide +kernel
theorem dX6_run_2 : decode cX6_run 2 = .ok (.putfield 65, 3) := by decide +kernel
theorem dX6_run_5 : decode cX6_run 5 = .ok (.aload_n 0, 1) := by decide +kernel
theorem dX6_run_6 : decode cX6_run 6 = .ok (.iconst 0, 1) := by decide +kernel
theorem dX6_run_7 : decode cX6_run 7 = .ok (.putfield 68, 3) := by decide +kernel
theorem dX6_run_10 : decode cX6_run 10 = .ok (.aload_n 0, 1) := by decide +kernel
theorem dX6_run_11 : decode cX6_run 11 = .ok (.iconst 0, 1) := by decide +kernel
theorem dX6_run_12 : decode cX6_run 12 = .ok (.putfield 71, 3) := by decide +kernel
theorem dX6_run_15 : decode cX6_run 15 = .ok (.aload_n 0, 1) := by decide +kernel
theorem dX6_run_16 : decode cX6_run 16 = .ok (.getfield 26, 3) := by decide +kernel
theorem dX6_run_19 : decode cX6_run 19 = .ok (.iconst 0, 1) := by decide +kernel
theorem dX6_run_20 : decode cX6_run 20 = .ok (.aload_n 1, 1) := by decide +kernel
theorem dX6_run_21 : decode cX6_run 21 = .ok (.aastore, 1) := by decide +kernel
theorem dX6_run_22 : decode cX6_run 22 = .ok (.aload_n 0, 1) := by decide +kernel
theorem dX6_run_23 : decode cX6_run 23 = .ok (.getfield 30, 3) := by decide +kernel
theorem dX6_run_26 : decode cX6_run 26 = .ok (.iconst 0, 1) := by decide +kernel
theorem dX6_run_27 : decode cX6_run 27 = .ok (.aload_n 1, 1) := by decide +kernel
theorem dX6_run_28 : decode cX6_run 28 = .ok (.getfield 74, 3) := by decide +kernel
theorem dX6_run_31 : decode cX6_run 31 = .ok (.iastore, 1) := by decide +kernel
theorem dX6_run_32 : decode cX6_run 32 = .ok (.aload_n 0, 1) := by decide +kernel
theorem dX6_run_33 : decode cX6_run 33 = .ok (.getfield 33, 3) := by decide +kernel
theorem dX6_run_36 : decode cX6_run 36 = .ok (.iconst 0, 1) := by decide +kernel
theorem dX6_run_37 : decode cX6_run 37 = .ok (.aload_n 0, 1) := by decide +kernel
theorem dX6_run_38 : decode cX6_run 38 = .ok (.getfield 42, 3) := by decide +kernel
theorem dX6_run_41 : decode cX6_run 41 = .ok (.iconst 0, 1) := by decide +kernel
theorem dX6_run_42 : decode cX6_run 42 = .ok (.iaload, 1) := by decide +kernel
theorem dX6_run_43 : decode cX6_run 43 = .ok (.iastore, 1) := by decide +kernel
theorem dX6_run_44 : decode cX6_run 44 = .ok (.aload_n 0, 1) := by decide +kernel
theorem dX6_run_45 : decode cX6_run 45 = .ok (.getfield 36, 3) := by decide +kernel
theorem dX6_run_48 : decode cX6_run 48 = .ok (.iconst 0, 1) := by decide +kernel
theorem dX6_run_49 : decode cX6_run 49 = .ok (.aload_n 0, 1) := by decide +kernel
theorem dX6_run_50 : decode cX6_run 50 = .ok (.getfield 42, 3) := by decide +kernel
theorem dX6_run_53 : decode cX6_run 53 = .ok (.iconst 1, 1) := by decide +kernel
theorem dX6_run_54 : decode cX6_run 54 = .ok (.iaload, 1) := by decide +kernel
theorem dX6_run_55 : decode cX6_run 55 = .ok (.iastore, 1) := by decide +kernel
theorem dX6_run_56 : decode cX6_run 56 = .ok (.iconst 0, 1) := by decide +kernel
theorem dX6_run_57 : decode cX6_run 57 = .ok (.istore_n 2, 1) := by decide +kernel
theorem dX6_run_58 : decode cX6_run 58 = .ok (.iload_n 2, 1) := by decide +kernel
theorem dX6_run_59 : decode cX6_run 59 = .ok (.sipush 592, 3) := by decide +kernel
theorem dX6_run_62 : decode cX6_run 62 = .ok (.if_icmp .ge 135, 3) := by decide +kernel
theorem dX6_run_65 : decode cX6_run 65 = .ok (.aload_n 0, 1) := by decide +kernel
theorem dX6_run_66 : decode cX6_run 66 = .ok (.getfield 30, 3) := by decide +kernel
theorem dX6_run_69 : decode cX6_run 69 = .ok (.aload_n 0, 1) := by decide +kernel
theorem dX6_run_70 : decode cX6_run 70 = .ok (.getfield 71, 3) := by decide +kernel
theorem dX6_run_73 : decode cX6_run 73 = .ok (.iaload, 1) := by decide +kernel
theorem dX6_run_74 : decode cX6_run 74 = .ok (.ifCond .gt 24, 3) := by decide +kernel
theorem dX6_run_77 : decode cX6_run 77 = .ok (.aload_n 0, 1) := by decide +kernel
theorem dX6_run_78 : decode cX6_run 78 = .ok (.getfield 71, 3) := by decide +kernel
theorem dX6_run_81 : decode cX6_run 81 = .ok (.ifCond .ne 17, 3) := by decide +kernel
theorem dX6_run_84 : decode cX6_run 84 = .ok (.aload_n 0, 1) := by decide +kernel
theorem dX6_run_85 : decode cX6_run 85 = .ok (.getfield 68, 3) := by decide +kernel
theorem dX6_run_88 : decode cX6_run 88 = .ok (.iconst 1, 1) := by decide +kernel
theorem dX6_run_89 : decode cX6_run 89 = .ok (.if_icmp .ne 7, 3) := by decide +kernel
theorem dX6_run_92 : decode cX6_run 92 = .ok (.iconst 1, 1) := by decide +kernel
theorem dX6_run_93 : decode cX6_run 93 = .ok (.goto 4, 3) := by decide +kernel
theorem dX6_run_96 : decode cX6_run 96 = .ok (.iconst 0, 1) := by decide +kernel
theorem dX6_run_97 : decode cX6_run 97 = .ok (.ireturn, 1) := by decide +kernel
theorem dX6_run_98 : decode cX6_run 98 = .ok (.aload_n 0, 1) := by decide +kernel
theorem dX6_run_99 : decode cX6_run 99 = .ok (.getfield 30, 3) := by decide +kernel
theorem dX6_run_102 : decode cX6_run 102 = .ok (.aload_n 0, 1) := by decide +kernel
theorem dX6_run_103 : decode cX6_run 103 = .ok (.getfield 71, 3) := by decide +kernel
theorem dX6_run_106 : decode cX6_run 106 = .ok (.iaload, 1) := by decide +kernel
theorem dX6_run_107 : decode cX6_run 107 = .ok (.ifCond .gt 16, 3) := by decide +kernel
theorem dX6_run_110 : decode cX6_run 110 = .ok (.aload_n 0, 1) := by decide +kernel
theorem dX6_run_111 : decode cX6_run 111 = .ok (.dup, 1) := by decide +kernel
theorem dX6_run_112 : decode cX6_run 112 = .ok (.getfield 71, 3) := by decide +kernel
theorem dX6_run_115 : decode cX6_run 115 = .ok (.iconst 1, 1) := by decide +kernel
theorem dX6_run_116 : decode cX6_run 116 = .ok (.isub, 1) := by decide +kernel
theorem dX6_run_117 : decode cX6_run 117 = .ok (.putfield 71, 3) := by decide +kernel
theorem dX6_run_120 : decode cX6_run 120 = .ok (.goto 71, 3) := by decide +kernel
theorem dX6_run_123 : decode cX6_run 123 = .ok (.aload_n 0, 1) := by decide +kernel
theorem dX6_run_124 : decode cX6_run 124 = .ok (.getfield 30, 3) := by decide +kernel
theorem dX6_run_127 : decode cX6_run 127 = .ok (.aload_n 0, 1) := by decide +kernel
theorem dX6_run_128 : decode cX6_run 128 = .ok (.getfield 71, 3) := by decide +kernel
theorem dX6_run_131 : decode cX6_run 131 = .ok (.dup2, 1) := by decide +kernel
theorem dX6_run_132 : decode cX6_run 132 = .ok (.iaload, 1) := by decide +kernel
theorem dX6_run_133 : decode cX6_run 133 = .ok (.iconst 1, 1) := by decide +kernel
theorem dX6_run_134 : decode cX6_run 134 = .ok (.isub, 1) := by decide +kernel
theorem dX6_run_135 : decode cX6_run 135 = .ok (.iastore, 1) := by decide +kernel
theorem dX6_run_136 : decode cX6_run 136 = .ok (.aload_n 0, 1) := by decide +kernel
theorem dX6_run_137 : decode cX6_run 137 = .ok (.getfield 26, 3) := by decide +kernel
theorem dX6_run_140 : decode cX6_run 140 = .ok (.aload_n 0, 1) := by decide +kernel
theorem dX6_run_141 : decode cX6_run 141 = .ok (.getfield 71, 3) := by decide +kernel
theorem dX6_run_144 : decode cX6_run 144 = .ok (.aaload, 1) := by decide +kernel
theorem dX6_run_145 : decode cX6_run 145 = .ok (.getfield 77, 3) := by decide +kernel
theorem dX6_run_148 : decode cX6_run 148 = .ok (.aload_n 0, 1) := by decide +kernel
theorem dX6_run_149 : decode cX6_run 149 = .ok (.getfield 30, 3) := by decide +kernel
theorem dX6_run_152 : decode cX6_run 152 = .ok (.aload_n 0, 1) := by decide +kernel
theorem dX6_run_153 : decode cX6_run 153 = .ok (.getfield 71, 3) := by decide +kernel
theorem dX6_run_156 : decode cX6_run 156 = .ok (.iaload, 1) := by decide +kernel
theorem dX6_run_157 : decode cX6_run 157 = .ok (.iaload, 1) := by decide +kernel
theorem dX6_run_158 : decode cX6_run 158 = .ok (.istore_n 3, 1) := by decide +kernel
theorem dX6_run_159 : decode cX6_run 159 = .ok (.iload_n 3, 1) := by decide +kernel
theorem dX6_run_160 : decode cX6_run 160 = .ok (.invokestatic 80, 3) := by decide +kernel
theorem dX6_run_163 : decode cX6_run 163 = .ok (.ifCond .eq 14, 3) := by decide +kernel
theorem dX6_run_166 : decode cX6_run 166 = .ok (.aload_n 0, 1) := by decide +kernel
theorem dX6_run_167 : decode cX6_run 167 = .ok (.iload_n 3, 1) := by decide +kernel
theorem dX6_run_168 : decode cX6_run 168 = .ok (.bipush 97, 2) := by decide +kernel
theorem dX6_run_170 : decode cX6_run 170 = .ok (.isub, 1) := by decide +kernel
theorem dX6_run_171 : decode cX6_run 171 = .ok (.invokevirtual 84, 3) := by decide +kernel
theorem dX6_run_174 : decode cX6_run 174 = .ok (.goto 8, 3) := by decide +kernel
theorem dX6_run_177 : decode cX6_run 177 = .ok (.aload_n 0, 1) := by decide +kernel
theorem dX6_run_178 : decode cX6_run 178 = .ok (.iload_n 3, 1) := by decide +kernel
theorem dX6_run_179 : decode cX6_run 179 = .ok (.invokevirtual 87, 3) := by decide +kernel
theorem dX6_run_182 : decode cX6_run 182 = .ok (.istore 4, 2) := by decide +kernel
theorem dX6_run_184 : decode cX6_run 184 = .ok (.iload 4, 2) := by decide +kernel
theorem dX6_run_186 : decode cX6_run 186 = .ok (.ifCond .ne 5, 3) := by decide +kernel
theorem dX6_run_189 : decode cX6_run 189 = .ok (.iconst 0, 1) := by decide +kernel
theorem dX6_run_190 : decode cX6_run 190 = .ok (.ireturn, 1) := by decide +kernel
theorem dX6_run_191 : decode cX6_run 191 = .ok (.iinc 2 1, 3) := by decide +kernel
theorem dX6_run_194 : decode cX6_run 194 = .ok (.goto (-136), 3) := by decide +kernel
theorem dX6_run_197 : decode cX6_run 197 = .ok (.iconst 0, 1) := by decide +kernel
theorem dX6_run_198 : decode cX6_run 198 = .ok (.ireturn, 1) := by decide +kernel
theorem dX6_take_0 : decode cX6_take 0 = .ok (.iload_n 1, 1) := by decide +kernel
theorem dX6_take_1 : decode cX6_take 1 = .ok (.lookupswitch 131 #[(83, 43), (120, 92), (121, 106), (122, 120)], 43) := by decide +kernel
theorem dX6_take_44 : decode cX6_take 44 = .ok (.aload_n 0, 1) := by decide +kernel
theorem dX6_take_45 : decode cX6_take 45 = .ok (.getfield 68, 3) := by decide +kernel
theorem dX6_take_48 : decode cX6_take 48 = .ok (.iconst 1, 1) := by decide +kernel
theorem dX6_take_49 : decode cX6_take 49 = .ok (.if_icmp .ge 5, 3) := by decide +kernel
theorem dX6_take_52 : decode cX6_take 52 = .ok (.iconst 0, 1) := by decide +kernel
theorem dX6_take_53 : decode cX6_take 53 = .ok (.ireturn, 1) := by decide +kernel
theorem dX6_take_54 : decode cX6_take 54 = .ok (.aload_n 0, 1) := by decide +kernel
theorem dX6_take_55 : decode cX6_take 55 = .ok (.dup, 1) := by decide +kernel
theorem dX6_take_56 : decode cX6_take 56 = .ok (.getfield 68, 3) := by decide +kernel
theorem dX6_take_59 : decode cX6_take 59 = .ok (.iconst 1, 1) := by decide +kernel
theorem dX6_take_60 : decode cX6_take 60 = .ok (.isub, 1) := by decide +kernel
theorem dX6_take_61 : decode cX6_take 61 = .ok (.putfield 68, 3) := by decide +kernel
theorem dX6_take_64 : decode cX6_take 64 = .ok (.aload_n 0, 1) := by decide +kernel
theorem dX6_take_65 : decode cX6_take 65 = .ok (.aload_n 0, 1) := by decide +kernel
theorem dX6_take_66 : decode cX6_take 66 = .ok (.bipush 83, 2) := by decide +kernel
theorem dX6_take_68 : decode cX6_take 68 = .ok (.aload_n 0, 1) := by decide +kernel
theorem dX6_take_69 : decode cX6_take 69 = .ok (.getfield 39, 3) := by decide +kernel
theorem dX6_take_72 : decode cX6_take 72 = .ok (.aload_n 0, 1) := by decide +kernel
theorem dX6_take_73 : decode cX6_take 73 = .ok (.getfield 68, 3) := by decide +kernel
theorem dX6_take_76 : decode cX6_take 76 = .ok (.iaload, 1) := by decide +kernel
theorem dX6_take_77 : decode cX6_take 77 = .ok (.aload_n 0, 1) := by decide +kernel
theorem dX6_take_78 : decode cX6_take 78 = .ok (.getfield 39, 3) := by decide +kernel
theorem dX6_take_81 : decode cX6_take 81 = .ok (.aload_n 0, 1) := by decide +kernel
theorem dX6_take_82 : decode cX6_take 82 = .ok (.getfield 68, 3) := by decide +kernel
theorem dX6_take_85 : decode cX6_take 85 = .ok (.iaload, 1) := by decide +kernel
theorem dX6_take_86 : decode cX6_take 86 = .ok (.invokevirtual 53, 3) := by decide +kernel
theorem dX6_take_89 : decode cX6_take 89 = .ok (.invokevirtual 90, 3) := by decide +kernel
theorem dX6_take_92 : decode cX6_take 92 = .ok (.ireturn, 1) := by decide +kernel
theorem dX6_take_93 : decode cX6_take 93 = .ok (.aload_n 0, 1) := by decide +kernel
theorem dX6_take_94 : decode cX6_take 94 = .ok (.aload_n 0, 1) := by decide +kernel
theorem dX6_take_95 : decode cX6_take 95 = .ok (.getfield 33, 3) := by decide +kernel
theorem dX6_take_98 : decode cX6_take 98 = .ok (.aload_n 0, 1) := by decide +kernel
theorem dX6_take_99 : decode cX6_take 99 = .ok (.getfield 71, 3) := by decide +kernel
theorem dX6_take_102 : decode cX6_take 102 = .ok (.iaload, 1) := by decide +kernel
theorem dX6_take_103 : decode cX6_take 103 = .ok (.invokevirtual 90, 3) := by decide +kernel
theorem dX6_take_106 : decode cX6_take 106 = .ok (.ireturn, 1) := by decide +kernel
theorem dX6_take_107 : decode cX6_take 107 = .ok (.aload_n 0, 1) := by decide +kernel
theorem dX6_take_108 : decode cX6_take 108 = .ok (.aload_n 0, 1) := by decide +kernel
theorem dX6_take_109 : decode cX6_take 109 = .ok (.getfield 36, 3) := by decide +kernel
theorem dX6_take_112 : decode cX6_take 112 = .ok (.aload_n 0, 1) := by decide +kernel
theorem dX6_take_113 : decode cX6_take 113 = .ok (.getfield 71, 3) := by decide +kernel
theorem dX6_take_116 : decode cX6_take 116 = .ok (.iaload, 1) := by decide +kernel
theorem dX6_take_117 : decode cX6_take 117 = .ok (.invokevirtual 90, 3) := by decide +kernel
theorem dX6_take_120 : decode cX6_take 120 = .ok (.ireturn, 1) := by decide +kernel
theorem dX6_take_121 : decode cX6_take 121 = .ok (.aload_n 0, 1) := by decide +kernel
theorem dX6_take_122 : decode cX6_take 122 = .ok (.aload_n 0, 1) := by decide +kernel
theorem dX6_take_123 : decode cX6_take 123 = .ok (.getfield 42, 3) := by decide +kernel
theorem dX6_take_126 : decode cX6_take 126 = .ok (.iconst 2, 1) := by decide +kernel
theorem dX6_take_127 : decode cX6_take 127 = .ok (.iaload, 1) := by decide +kernel
theorem dX6_take_128 : decode cX6_take 128 = .ok (.invokevirtual 90, 3) := by decide +kernel
theorem dX6_take_131 : decode cX6_take 131 = .ok (.ireturn, 1) := by decide +kernel
theorem dX6_take_132 : decode cX6_take 132 = .ok (.aload_n 0, 1) := by decide +kernel
theorem dX6_take_133 : decode cX6_take 133 = .ok (.iconst 0, 1) := by decide +kernel
theorem dX6_take_134 : decode cX6_take 134 = .ok (.invokevirtual 90, 3) := by decide +kernel
theorem dX6_take_137 : decode cX6_take 137 = .ok (.ireturn, 1) := by decide +kernel
theorem dX6_apply_0 : decode cX6_apply 0 = .ok (.iload_n 1, 1) := by decide +kernel
theorem dX6_apply_1 : decode cX6_apply 1 = .ok (.ifCond .lt 30, 3) := by decide +kernel
theorem dX6_apply_4 : decode cX6_apply 4 = .ok (.iload_n 1, 1) := by decide +kernel
theorem dX6_apply_5 : decode cX6_apply 5 = .ok (.aload_n 0, 1) := by decide +kernel
theorem dX6_apply_6 : decode cX6_apply 6 = .ok (.getfield 45, 3) := by decide +kernel
theorem dX6_apply_9 : decode cX6_apply 9 = .ok (.getfield 93, 3) := by decide +kernel
theorem dX6_apply_12 : decode cX6_apply 12 = .ok (.if_icmp .ge 19, 3) := by decide +kernel
theorem dX6_apply_15 : decode cX6_apply 15 = .ok (.aload_n 0, 1) := by decide +kernel
theorem dX6_apply_16 : decode cX6_apply 16 = .ok (.getfield 68, 3) := by decide +kernel
theorem dX6_apply_19 : decode cX6_apply 19 = .ok (.aload_n 0, 1) := by decide +kernel
theorem dX6_apply_20 : decode cX6_apply 20 = .ok (.getfield 45, 3) := by decide +kernel
theorem dX6_apply_23 : decode cX6_apply 23 = .ok (.getfield 98, 3) := by decide +kernel
theorem dX6_apply_26 : decode cX6_apply 26 = .ok (.iload_n 1, 1) := by decide +kernel
theorem dX6_apply_27 : decode cX6_apply 27 = .ok (.iaload, 1) := by decide +kernel
theorem dX6_apply_28 : decode cX6_apply 28 = .ok (.if_icmp .ge 5, 3) := by decide +kernel
theorem dX6_apply_31 : decode cX6_apply 31 = .ok (.iconst 0, 1) := by decide +kernel
theorem dX6_apply_32 : decode cX6_apply 32 = .ok (.ireturn, 1) := by decide +kernel
theorem dX6_apply_33 : decode cX6_apply 33 = .ok (.aload_n 0, 1) := by decide +kernel
theorem dX6_apply_34 : decode cX6_apply 34 = .ok (.getfield 45, 3) := by decide +kernel
theorem dX6_apply_37 : decode cX6_apply 37 = .ok (.getfield 98, 3) := by decide +kernel
theorem dX6_apply_40 : decode cX6_apply 40 = .ok (.iload_n 1, 1) := by decide +kernel
theorem dX6_apply_41 : decode cX6_apply 41 = .ok (.iaload, 1) := by decide +kernel
theorem dX6_apply_42 : decode cX6_apply 42 = .ok (.istore_n 2, 1) := by decide +kernel
theorem dX6_apply_43 : decode cX6_apply 43 = .ok (.aload_n 0, 1) := by decide +kernel
theorem dX6_apply_44 : decode cX6_apply 44 = .ok (.dup, 1) := by decide +kernel
theorem dX6_apply_45 : decode cX6_apply 45 = .ok (.getfield 68, 3) := by decide +kernel
theorem dX6_apply_48 : decode cX6_apply 48 = .ok (.iload_n 2, 1) := by decide +kernel
theorem dX6_apply_49 : decode cX6_apply 49 = .ok (.isub, 1) := by decide +kernel
theorem dX6_apply_50 : decode cX6_apply 50 = .ok (.putfield 68, 3) := by decide +kernel
theorem dX6_apply_53 : decode cX6_apply 53 = .ok (.aload_n 0, 1) := by decide +kernel
theorem dX6_apply_54 : decode cX6_apply 54 = .ok (.getfield 39, 3) := by decide +kernel
theorem dX6_apply_57 : decode cX6_apply 57 = .ok (.aload_n 0, 1) := by decide +kernel
theorem dX6_apply_58 : decode cX6_apply 58 = .ok (.getfield 68, 3) := by decide +kernel
theorem dX6_apply_61 : decode cX6_apply 61 = .ok (.iload_n 2, 1) := by decide +kernel
theorem dX6_apply_62 : decode cX6_apply 62 = .ok (.iadd, 1) := by decide +kernel
theorem dX6_apply_63 : decode cX6_apply 63 = .ok (.iconst 1, 1) := by decide +kernel
theorem dX6_apply_64 : decode cX6_apply 64 = .ok (.isub, 1) := by decide +kernel
theorem dX6_apply_65 : decode cX6_apply 65 = .ok (.iaload, 1) := by decide +kernel
theorem dX6_apply_66 : decode cX6_apply 66 = .ok (.istore_n 3, 1) := by decide +kernel
theorem dX6_apply_67 : decode cX6_apply 67 = .ok (.aload_n 0, 1) := by decide +kernel
theorem dX6_apply_68 : decode cX6_apply 68 = .ok (.getfield 39, 3) := by decide +kernel
theorem dX6_apply_71 : decode cX6_apply 71 = .ok (.aload_n 0, 1) := by decide +kernel
theorem dX6_apply_72 : decode cX6_apply 72 = .ok (.getfield 68, 3) := by decide +kernel
theorem dX6_apply_75 : decode cX6_apply 75 = .ok (.iaload, 1) := by decide +kernel
theorem dX6_apply_76 : decode cX6_apply 76 = .ok (.istore 4, 2) := by decide +kernel
theorem dX6_apply_78 : decode cX6_apply 78 = .ok (.aload_n 0, 1) := by decide +kernel
theorem dX6_apply_79 : decode cX6_apply 79 = .ok (.iload_n 1, 1) := by decide +kernel
theorem dX6_apply_80 : decode cX6_apply 80 = .ok (.iload_n 3, 1) := by decide +kernel
theorem dX6_apply_81 : decode cX6_apply 81 = .ok (.invokevirtual 101, 3) := by decide +kernel
theorem dX6_apply_84 : decode cX6_apply 84 = .ok (.istore 5, 2) := by decide +kernel
theorem dX6_apply_86 : decode cX6_apply 86 = .ok (.iload 5, 2) := by decide +kernel
theorem dX6_apply_88 : decode cX6_apply 88 = .ok (.bipush (-9), 2) := by decide +kernel
theorem dX6_apply_90 : decode cX6_apply 90 = .ok (.if_icmp .ne 19, 3) := by decide +kernel
theorem dX6_apply_93 : decode cX6_apply 93 = .ok (.aload_n 0, 1) := by decide +kernel
theorem dX6_apply_94 : decode cX6_apply 94 = .ok (.aload_n 0, 1) := by decide +kernel
theorem dX6_apply_95 : decode cX6_apply 95 = .ok (.bipush 97, 2) := by decide +kernel
theorem dX6_apply_97 : decode cX6_apply 97 = .ok (.iload_n 1, 1) := by decide +kernel
theorem dX6_apply_98 : decode cX6_apply 98 = .ok (.iadd, 1) := by decide +kernel
theorem dX6_apply_99 : decode cX6_apply 99 = .ok (.iload_n 3, 1) := by decide +kernel
theorem dX6_apply_100 : decode cX6_apply 100 = .ok (.iload 4, 2) := by decide +kernel
theorem dX6_apply_102 : decode cX6_apply 102 = .ok (.invokevirtual 53, 3) := by decide +kernel
theorem dX6_apply_105 : decode cX6_apply 105 = .ok (.invokevirtual 90, 3) := by decide +kernel
theorem dX6_apply_108 : decode cX6_apply 108 = .ok (.ireturn, 1) := by decide +kernel
theorem dX6_apply_109 : decode cX6_apply 109 = .ok (.aload_n 0, 1) := by decide +kernel
theorem dX6_apply_110 : decode cX6_apply 110 = .ok (.getfield 45, 3) := by decide +kernel
theorem dX6_apply_113 : decode cX6_apply 113 = .ok (.iload_n 1, 1) := by decide +kernel
theorem dX6_apply_114 : decode cX6_apply 114 = .ok (.iload 5, 2) := by decide +kernel
theorem dX6_apply_116 : decode cX6_apply 116 = .ok (.invokevirtual 105, 3) := by decide +kernel
theorem dX6_apply_119 : decode cX6_apply 119 = .ok (.astore 6, 2) := by decide +kernel
theorem dX6_apply_121 : decode cX6_apply 121 = .ok (.aload_n 0, 1) := by decide +kernel
theorem dX6_apply_122 : decode cX6_apply 122 = .ok (.dup, 1) := by decide +kernel
theorem dX6_apply_123 : decode cX6_apply 123 = .ok (.getfield 65, 3) := by decide +kernel
theorem dX6_apply_126 : decode cX6_apply 126 = .ok (.iconst 1, 1) := by decide +kernel
theorem dX6_apply_127 : decode cX6_apply 127 = .ok (.iadd, 1) := by decide +kernel
theorem dX6_apply_128 : decode cX6_apply 128 = .ok (.putfield 65, 3) := by decide +kernel
theorem dX6_apply_131 : decode cX6_apply 131 = .ok (.aload 6, 2) := by decide +kernel
theorem dX6_apply_133 : decode cX6_apply 133 = .ok (.ifnull 23, 3) := by decide +kernel
theorem dX6_apply_136 : decode cX6_apply 136 = .ok (.aload_n 0, 1) := by decide +kernel
theorem dX6_apply_137 : decode cX6_apply 137 = .ok (.getfield 65, 3) := by decide +kernel
theorem dX6_apply_140 : decode cX6_apply 140 = .ok (.bipush 50, 2) := by decide +kernel
theorem dX6_apply_142 : decode cX6_apply 142 = .ok (.if_icmp .gt 14, 3) := by decide +kernel
theorem dX6_apply_145 : decode cX6_apply 145 = .ok (.aload_n 0, 1) := by decide +kernel
theorem dX6_apply_146 : decode cX6_apply 146 = .ok (.getfield 71, 3) := by decide +kernel
theorem dX6_apply_149 : decode cX6_apply 149 = .ok (.iconst 1, 1) := by decide +kernel
theorem dX6_apply_150 : decode cX6_apply 150 = .ok (.iadd, 1) := by decide +kernel
theorem dX6_apply_151 : decode cX6_apply 151 = .ok (.bipush 51, 2) := by decide +kernel
theorem dX6_apply_153 : decode cX6_apply 153 = .ok (.if_icmp .lt 5, 3) := by decide +kernel
theorem dX6_apply_156 : decode cX6_apply 156 = .ok (.iconst 0, 1) := by decide +kernel
theorem dX6_apply_157 : decode cX6_apply 157 = .ok (.ireturn, 1) := by decide +kernel
theorem dX6_apply_158 : decode cX6_apply 158 = .ok (.aload_n 0, 1) := by decide +kernel
theorem dX6_apply_159 : decode cX6_apply 159 = .ok (.dup, 1) := by decide +kernel
theorem dX6_apply_160 : decode cX6_apply 160 = .ok (.getfield 71, 3) := by decide +kernel
theorem dX6_apply_163 : decode cX6_apply 163 = .ok (.iconst 1, 1) := by decide +kernel
theorem dX6_apply_164 : decode cX6_apply 164 = .ok (.iadd, 1) := by decide +kernel
theorem dX6_apply_165 : decode cX6_apply 165 = .ok (.putfield 71, 3) := by decide +kernel
theorem dX6_apply_168 : decode cX6_apply 168 = .ok (.aload_n 0, 1) := by decide +kernel
theorem dX6_apply_169 : decode cX6_apply 169 = .ok (.getfield 26, 3) := by decide +kernel
theorem dX6_apply_172 : decode cX6_apply 172 = .ok (.aload_n 0, 1) := by decide +kernel
theorem dX6_apply_173 : decode cX6_apply 173 = .ok (.getfield 71, 3) := by decide +kernel
theorem dX6_apply_176 : decode cX6_apply 176 = .ok (.aload 6, 2) := by decide +kernel
theorem dX6_apply_178 : decode cX6_apply 178 = .ok (.aastore, 1) := by decide +kernel
theorem dX6_apply_179 : decode cX6_apply 179 = .ok (.aload_n 0, 1) := by decide +kernel
theorem dX6_apply_180 : decode cX6_apply 180 = .ok (.getfield 30, 3) := by decide +kernel
theorem dX6_apply_183 : decode cX6_apply 183 = .ok (.aload_n 0, 1) := by decide +kernel
theorem dX6_apply_184 : decode cX6_apply 184 = .ok (.getfield 71, 3) := by decide +kernel
theorem dX6_apply_187 : decode cX6_apply 187 = .ok (.aload 6, 2) := by decide +kernel
theorem dX6_apply_189 : decode cX6_apply 189 = .ok (.getfield 74, 3) := by decide +kernel
theorem dX6_apply_192 : decode cX6_apply 192 = .ok (.iastore, 1) := by decide +kernel
theorem dX6_apply_193 : decode cX6_apply 193 = .ok (.aload_n 0, 1) := by decide +kernel
theorem dX6_apply_194 : decode cX6_apply 194 = .ok (.getfield 33, 3) := by decide +kernel
theorem dX6_apply_197 : decode cX6_apply 197 = .ok (.aload_n 0, 1) := by decide +kernel
theorem dX6_apply_198 : decode cX6_apply 198 = .ok (.getfield 71, 3) := by decide +kernel
theorem dX6_apply_201 : decode cX6_apply 201 = .ok (.aload_n 0, 1) := by decide +kernel
theorem dX6_apply_202 : decode cX6_apply 202 = .ok (.getfield 45, 3) := by decide +kernel
theorem dX6_apply_205 : decode cX6_apply 205 = .ok (.getfield 109, 3) := by decide +kernel
theorem dX6_apply_208 : decode cX6_apply 208 = .ok (.iload_n 1, 1) := by decide +kernel
theorem dX6_apply_209 : decode cX6_apply 209 = .ok (.iaload, 1) := by decide +kernel
theorem dX6_apply_210 : decode cX6_apply 210 = .ok (.iconst 1, 1) := by decide +kernel
theorem dX6_apply_211 : decode cX6_apply 211 = .ok (.if_icmp .ne 12, 3) := by decide +kernel
theorem dX6_apply_214 : decode cX6_apply 214 = .ok (.aload_n 0, 1) := by decide +kernel
theorem dX6_apply_215 : decode cX6_apply 215 = .ok (.getfield 15, 3) := by decide +kernel
theorem dX6_apply_218 : decode cX6_apply 218 = .ok (.iload_n 3, 1) := by decide +kernel
theorem dX6_apply_219 : decode cX6_apply 219 = .ok (.iaload, 1) := by decide +kernel
theorem dX6_apply_220 : decode cX6_apply 220 = .ok (.goto 14, 3) := by decide +kernel
theorem dX6_apply_223 : decode cX6_apply 223 = .ok (.aload_n 0, 1) := by decide +kernel
theorem dX6_apply_224 : decode cX6_apply 224 = .ok (.getfield 15, 3) := by decide +kernel
theorem dX6_apply_227 : decode cX6_apply 227 = .ok (.aload_n 0, 1) := by decide +kernel
theorem dX6_apply_228 : decode cX6_apply 228 = .ok (.getfield 15, 3) := by decide +kernel
theorem dX6_apply_231 : decode cX6_apply 231 = .ok (.iload_n 3, 1) := by decide +kernel
theorem dX6_apply_232 : decode cX6_apply 232 = .ok (.iaload, 1) := by decide +kernel
theorem dX6_apply_233 : decode cX6_apply 233 = .ok (.iaload, 1) := by decide +kernel
theorem dX6_apply_234 : decode cX6_apply 234 = .ok (.iastore, 1) := by decide +kernel
theorem dX6_apply_235 : decode cX6_apply 235 = .ok (.aload_n 0, 1) := by decide +kernel
theorem dX6_apply_236 : decode cX6_apply 236 = .ok (.getfield 36, 3) := by decide +kernel
theorem dX6_apply_239 : decode cX6_apply 239 = .ok (.aload_n 0, 1) := by decide +kernel
theorem dX6_apply_240 : decode cX6_apply 240 = .ok (.getfield 71, 3) := by decide +kernel
theorem dX6_apply_243 : decode cX6_apply 243 = .ok (.iload 4, 2) := by decide +kernel
theorem dX6_apply_245 : decode cX6_apply 245 = .ok (.iastore, 1) := by decide +kernel
theorem dX6_apply_246 : decode cX6_apply 246 = .ok (.iconst 1, 1) := by decide +kernel
theorem dX6_apply_247 : decode cX6_apply 247 = .ok (.ireturn, 1) := by decide +kernel
theorem dX6_bodyFor_0 : decode cX6_bodyFor 0 = .ok (.aload_n 0, 1) := by decide +kernel
theorem dX6_bodyFor_1 : decode cX6_bodyFor 1 = .ok (.getfield 11, 3) := by decide +kernel
theorem dX6_bodyFor_4 : decode cX6_bodyFor 4 = .ok (.iload_n 2, 1) := by decide +kernel
theorem dX6_bodyFor_5 : decode cX6_bodyFor 5 = .ok (.iaload, 1) := by decide +kernel
theorem dX6_bodyFor_6 : decode cX6_bodyFor 6 = .ok (.bipush 90, 2) := by decide +kernel
theorem dX6_bodyFor_8 : decode cX6_bodyFor 8 = .ok (.if_icmp .ne 5, 3) := by decide +kernel
theorem dX6_bodyFor_11 : decode cX6_bodyFor 11 = .ok (.iconst 0, 1) := by decide +kernel
theorem dX6_bodyFor_12 : decode cX6_bodyFor 12 = .ok (.ireturn, 1) := by decide +kernel
theorem dX6_bodyFor_13 : decode cX6_bodyFor 13 = .ok (.aload_n 0, 1) := by decide +kernel
theorem dX6_bodyFor_14 : decode cX6_bodyFor 14 = .ok (.getfield 11, 3) := by decide +kernel
theorem dX6_bodyFor_17 : decode cX6_bodyFor 17 = .ok (.iload_n 2, 1) := by decide +kernel
theorem dX6_bodyFor_18 : decode cX6_bodyFor 18 = .ok (.iaload, 1) := by decide +kernel
theorem dX6_bodyFor_19 : decode cX6_bodyFor 19 = .ok (.bipush 83, 2) := by decide +kernel
theorem dX6_bodyFor_21 : decode cX6_bodyFor 21 = .ok (.if_icmp .eq 6, 3) := by decide +kernel
theorem dX6_bodyFor_24 : decode cX6_bodyFor 24 = .ok (.bipush (-9), 2) := by decide +kernel
theorem dX6_bodyFor_26 : decode cX6_bodyFor 26 = .ok (.ireturn, 1) := by decide +kernel
theorem dX6_bodyFor_27 : decode cX6_bodyFor 27 = .ok (.aload_n 0, 1) := by decide +kernel
theorem dX6_bodyFor_28 : decode cX6_bodyFor 28 = .ok (.getfield 45, 3) := by decide +kernel
theorem dX6_bodyFor_31 : decode cX6_bodyFor 31 = .ok (.getfield 109, 3) := by decide +kernel
theorem dX6_bodyFor_34 : decode cX6_bodyFor 34 = .ok (.iload_n 1, 1) := by decide +kernel
theorem dX6_bodyFor_35 : decode cX6_bodyFor 35 = .ok (.iaload, 1) := by decide +kernel
theorem dX6_bodyFor_36 : decode cX6_bodyFor 36 = .ok (.iconst 1, 1) := by decide +kernel
theorem dX6_bodyFor_37 : decode cX6_bodyFor 37 = .ok (.if_icmp .ne 5, 3) := by decide +kernel
theorem dX6_bodyFor_40 : decode cX6_bodyFor 40 = .ok (.iconst 2, 1) := by decide +kernel
theorem dX6_bodyFor_41 : decode cX6_bodyFor 41 = .ok (.ireturn, 1) := by decide +kernel
theorem dX6_bodyFor_42 : decode cX6_bodyFor 42 = .ok (.aload_n 0, 1) := by decide +kernel
theorem dX6_bodyFor_43 : decode cX6_bodyFor 43 = .ok (.getfield 11, 3) := by decide +kernel
theorem dX6_bodyFor_46 : decode cX6_bodyFor 46 = .ok (.aload_n 0, 1) := by decide +kernel
theorem dX6_bodyFor_47 : decode cX6_bodyFor 47 = .ok (.getfield 15, 3) := by decide +kernel
theorem dX6_bodyFor_50 : decode cX6_bodyFor 50 = .ok (.iload_n 2, 1) := by decide +kernel
theorem dX6_bodyFor_51 : decode cX6_bodyFor 51 = .ok (.iaload, 1) := by decide +kernel
theorem dX6_bodyFor_52 : decode cX6_bodyFor 52 = .ok (.iaload, 1) := by decide +kernel
theorem dX6_bodyFor_53 : decode cX6_bodyFor 53 = .ok (.istore_n 3, 1) := by decide +kernel
theorem dX6_bodyFor_54 : decode cX6_bodyFor 54 = .ok (.iload_n 3, 1) := by decide +kernel
theorem dX6_bodyFor_55 : decode cX6_bodyFor 55 = .ok (.bipush 90, 2) := by decide +kernel
theorem dX6_bodyFor_57 : decode cX6_bodyFor 57 = .ok (.if_icmp .ne 7, 3) := by decide +kernel
theorem dX6_bodyFor_60 : decode cX6_bodyFor 60 = .ok (.iconst 1, 1) := by decide +kernel
theorem dX6_bodyFor_61 : decode cX6_bodyFor 61 = .ok (.goto 15, 3) := by decide +kernel
theorem dX6_bodyFor_64 : decode cX6_bodyFor 64 = .ok (.iload_n 3, 1) := by decide +kernel
theorem dX6_bodyFor_65 : decode cX6_bodyFor 65 = .ok (.bipush 83, 2) := by decide +kernel
theorem dX6_bodyFor_67 : decode cX6_bodyFor 67 = .ok (.if_icmp .ne 7, 3) := by decide +kernel
theorem dX6_bodyFor_70 : decode cX6_bodyFor 70 = .ok (.iconst 2, 1) := by decide +kernel
theorem dX6_bodyFor_71 : decode cX6_bodyFor 71 = .ok (.goto 5, 3) := by decide +kernel
theorem dX6_bodyFor_74 : decode cX6_bodyFor 74 = .ok (.bipush (-9), 2) := by decide +kernel
theorem dX6_bodyFor_76 : decode cX6_bodyFor 76 = .ok (.ireturn, 1) := by decide +kernel
theorem dX6_make_0 : decode cX6_make 0 = .ok (.iload_n 2, 1) := by decide +kernel
theorem dX6_make_1 : decode cX6_make 1 = .ok (.ifCond .lt 33, 3) := by decide +kernel
theorem dX6_make_4 : decode cX6_make 4 = .ok (.iload_n 2, 1) := by decide +kernel
theorem dX6_make_5 : decode cX6_make 5 = .ok (.aload_n 0, 1) := by decide +kernel
theorem dX6_make_6 : decode cX6_make 6 = .ok (.getfield 49, 3) := by decide +kernel
theorem dX6_make_9 : decode cX6_make 9 = .ok (.if_icmp .ge 25, 3) := by decide +kernel
theorem dX6_make_12 : decode cX6_make 12 = .ok (.iload_n 3, 1) := by decide +kernel
theorem dX6_make_13 : decode cX6_make 13 = .ok (.ifCond .lt 21, 3) := by decide +kernel
theorem dX6_make_16 : decode cX6_make 16 = .ok (.iload_n 3, 1) := by decide +kernel
theorem dX6_make_17 : decode cX6_make 17 = .ok (.aload_n 0, 1) := by decide +kernel
theorem dX6_make_18 : decode cX6_make 18 = .ok (.getfield 49, 3) := by decide +kernel
theorem dX6_make_21 : decode cX6_make 21 = .ok (.if_icmp .ge 13, 3) := by decide +kernel
theorem dX6_make_24 : decode cX6_make 24 = .ok (.aload_n 0, 1) := by decide +kernel
theorem dX6_make_25 : decode cX6_make 25 = .ok (.getfield 49, 3) := by decide +kernel
theorem dX6_make_28 : decode cX6_make 28 = .ok (.sipush 546, 3) := by decide +kernel
theorem dX6_make_31 : decode cX6_make 31 = .ok (.if_icmp .lt 6, 3) := by decide +kernel
theorem dX6_make_34 : decode cX6_make 34 = .ok (.bipush (-9), 2) := by decide +kernel
theorem dX6_make_36 : decode cX6_make 36 = .ok (.ireturn, 1) := by decide +kernel
theorem dX6_make_37 : decode cX6_make 37 = .ok (.iconst 1, 1) := by decide +kernel
theorem dX6_make_38 : decode cX6_make 38 = .ok (.aload_n 0, 1) := by decide +kernel
theorem dX6_make_39 : decode cX6_make 39 = .ok (.getfield 21, 3) := by decide +kernel
theorem dX6_make_42 : decode cX6_make 42 = .ok (.iload_n 2, 1) := by decide +kernel
theorem dX6_make_43 : decode cX6_make 43 = .ok (.iaload, 1) := by decide +kernel
theorem dX6_make_44 : decode cX6_make 44 = .ok (.iadd, 1) := by decide +kernel
theorem dX6_make_45 : decode cX6_make 45 = .ok (.aload_n 0, 1) := by decide +kernel
theorem dX6_make_46 : decode cX6_make 46 = .ok (.getfield 45, 3) := by decide +kernel
theorem dX6_make_49 : decode cX6_make 49 = .ok (.getfield 112, 3) := by decide +kernel
theorem dX6_make_52 : decode cX6_make 52 = .ok (.iload_n 1, 1) := by decide +kernel
theorem dX6_make_53 : decode cX6_make 53 = .ok (.iaload, 1) := by decide +kernel
theorem dX6_make_54 : decode cX6_make 54 = .ok (.iconst 2, 1) := by decide +kernel
theorem dX6_make_55 : decode cX6_make 55 = .ok (.if_icmp .ne 12, 3) := by decide +kernel
theorem dX6_make_58 : decode cX6_make 58 = .ok (.aload_n 0, 1) := by decide +kernel
theorem dX6_make_59 : decode cX6_make 59 = .ok (.getfield 21, 3) := by decide +kernel
theorem dX6_make_62 : decode cX6_make 62 = .ok (.iload_n 3, 1) := by decide +kernel
theorem dX6_make_63 : decode cX6_make 63 = .ok (.iaload, 1) := by decide +kernel
theorem dX6_make_64 : decode cX6_make 64 = .ok (.goto 4, 3) := by decide +kernel
theorem dX6_make_67 : decode cX6_make 67 = .ok (.iconst 0, 1) := by decide +kernel
theorem dX6_make_68 : decode cX6_make 68 = .ok (.iadd, 1) := by decide +kernel
theorem dX6_make_69 : decode cX6_make 69 = .ok (.istore 4, 2) := by decide +kernel
theorem dX6_make_71 : decode cX6_make 71 = .ok (.iload 4, 2) := by decide +kernel
theorem dX6_make_73 : decode cX6_make 73 = .ok (.bipush 40, 2) := by decide +kernel
theorem dX6_make_75 : decode cX6_make 75 = .ok (.if_icmp .le 6, 3) := by decide +kernel
theorem dX6_make_78 : decode cX6_make 78 = .ok (.bipush (-9), 2) := by decide +kernel
theorem dX6_make_80 : decode cX6_make 80 = .ok (.ireturn, 1) := by decide +kernel
theorem dX6_make_81 : decode cX6_make 81 = .ok (.aload_n 0, 1) := by decide +kernel
theorem dX6_make_82 : decode cX6_make 82 = .ok (.getfield 11, 3) := by decide +kernel
theorem dX6_make_85 : decode cX6_make 85 = .ok (.aload_n 0, 1) := by decide +kernel
theorem dX6_make_86 : decode cX6_make 86 = .ok (.getfield 49, 3) := by decide +kernel
theorem dX6_make_89 : decode cX6_make 89 = .ok (.iload_n 1, 1) := by decide +kernel
theorem dX6_make_90 : decode cX6_make 90 = .ok (.iastore, 1) := by decide +kernel
theorem dX6_make_91 : decode cX6_make 91 = .ok (.aload_n 0, 1) := by decide +kernel
theorem dX6_make_92 : decode cX6_make 92 = .ok (.getfield 15, 3) := by decide +kernel
theorem dX6_make_95 : decode cX6_make 95 = .ok (.aload_n 0, 1) := by decide +kernel
theorem dX6_make_96 : decode cX6_make 96 = .ok (.getfield 49, 3) := by decide +kernel
theorem dX6_make_99 : decode cX6_make 99 = .ok (.iload_n 2, 1) := by decide +kernel
theorem dX6_make_100 : decode cX6_make 100 = .ok (.iastore, 1) := by decide +kernel
theorem dX6_make_101 : decode cX6_make 101 = .ok (.aload_n 0, 1) := by decide +kernel
theorem dX6_make_102 : decode cX6_make 102 = .ok (.getfield 18, 3) := by decide +kernel
theorem dX6_make_105 : decode cX6_make 105 = .ok (.aload_n 0, 1) := by decide +kernel
theorem dX6_make_106 : decode cX6_make 106 = .ok (.getfield 49, 3) := by decide +kernel
theorem dX6_make_109 : decode cX6_make 109 = .ok (.iload_n 3, 1) := by decide +kernel
theorem dX6_make_110 : decode cX6_make 110 = .ok (.iastore, 1) := by decide +kernel
theorem dX6_make_111 : decode cX6_make 111 = .ok (.aload_n 0, 1) := by decide +kernel
theorem dX6_make_112 : decode cX6_make 112 = .ok (.getfield 21, 3) := by decide +kernel
theorem dX6_make_115 : decode cX6_make 115 = .ok (.aload_n 0, 1) := by decide +kernel
theorem dX6_make_116 : decode cX6_make 116 = .ok (.getfield 49, 3) := by decide +kernel
theorem dX6_make_119 : decode cX6_make 119 = .ok (.iload 4, 2) := by decide +kernel
theorem dX6_make_121 : decode cX6_make 121 = .ok (.iastore, 1) := by decide +kernel
theorem dX6_make_122 : decode cX6_make 122 = .ok (.aload_n 0, 1) := by decide +kernel
theorem dX6_make_123 : decode cX6_make 123 = .ok (.dup, 1) := by decide +kernel
theorem dX6_make_124 : decode cX6_make 124 = .ok (.getfield 49, 3) := by decide +kernel
theorem dX6_make_127 : decode cX6_make 127 = .ok (.iconst 1, 1) := by decide +kernel
theorem dX6_make_128 : decode cX6_make 128 = .ok (.iadd, 1) := by decide +kernel
theorem dX6_make_129 : decode cX6_make 129 = .ok (.putfield 49, 3) := by decide +kernel
theorem dX6_make_132 : decode cX6_make 132 = .ok (.aload_n 0, 1) := by decide +kernel
theorem dX6_make_133 : decode cX6_make 133 = .ok (.getfield 49, 3) := by decide +kernel
theorem dX6_make_136 : decode cX6_make 136 = .ok (.iconst 1, 1) := by decide +kernel
theorem dX6_make_137 : decode cX6_make 137 = .ok (.isub, 1) := by decide +kernel
theorem dX6_make_138 : decode cX6_make 138 = .ok (.ireturn, 1) := by decide +kernel
theorem dX6_push_0 : decode cX6_push 0 = .ok (.iload_n 1, 1) := by decide +kernel
theorem dX6_push_1 : decode cX6_push 1 = .ok (.ifCond .lt 28, 3) := by decide +kernel
theorem dX6_push_4 : decode cX6_push 4 = .ok (.iload_n 1, 1) := by decide +kernel
theorem dX6_push_5 : decode cX6_push 5 = .ok (.aload_n 0, 1) := by decide +kernel
theorem dX6_push_6 : decode cX6_push 6 = .ok (.getfield 49, 3) := by decide +kernel
theorem dX6_push_9 : decode cX6_push 9 = .ok (.if_icmp .ge 20, 3) := by decide +kernel
theorem dX6_push_12 : decode cX6_push 12 = .ok (.aload_n 0, 1) := by decide +kernel
theorem dX6_push_13 : decode cX6_push 13 = .ok (.getfield 68, 3) := by decide +kernel
theorem dX6_push_16 : decode cX6_push 16 = .ok (.ifCond .lt 13, 3) := by decide +kernel
theorem dX6_push_19 : decode cX6_push 19 = .ok (.aload_n 0, 1) := by decide +kernel
theorem dX6_push_20 : decode cX6_push 20 = .ok (.getfield 68, 3) := by decide +kernel
theorem dX6_push_23 : decode cX6_push 23 = .ok (.sipush 540, 3) := by decide +kernel
theorem dX6_push_26 : decode cX6_push 26 = .ok (.if_icmp .lt 5, 3) := by decide +kernel
theorem dX6_push_29 : decode cX6_push 29 = .ok (.iconst 0, 1) := by decide +kernel
theorem dX6_push_30 : decode cX6_push 30 = .ok (.ireturn, 1) := by decide +kernel
theorem dX6_push_31 : decode cX6_push 31 = .ok (.aload_n 0, 1) := by decide +kernel
theorem dX6_push_32 : decode cX6_push 32 = .ok (.getfield 39, 3) := by decide +kernel
theorem dX6_push_35 : decode cX6_push 35 = .ok (.aload_n 0, 1) := by decide +kernel
theorem dX6_push_36 : decode cX6_push 36 = .ok (.getfield 68, 3) := by decide +kernel
theorem dX6_push_39 : decode cX6_push 39 = .ok (.iload_n 1, 1) := by decide +kernel
theorem dX6_push_40 : decode cX6_push 40 = .ok (.iastore, 1) := by decide +kernel
theorem dX6_push_41 : decode cX6_push 41 = .ok (.aload_n 0, 1) := by decide +kernel
theorem dX6_push_42 : decode cX6_push 42 = .ok (.dup, 1) := by decide +kernel
theorem dX6_push_43 : decode cX6_push 43 = .ok (.getfield 68, 3) := by decide +kernel
theorem dX6_push_46 : decode cX6_push 46 = .ok (.iconst 1, 1) := by decide +kernel
theorem dX6_push_47 : decode cX6_push 47 = .ok (.iadd, 1) := by decide +kernel
theorem dX6_push_48 : decode cX6_push 48 = .ok (.putfield 68, 3) := by decide +kernel
theorem dX6_push_51 : decode cX6_push 51 = .ok (.iconst 1, 1) := by decide +kernel
theorem dX6_push_52 : decode cX6_push 52 = .ok (.ireturn, 1) := by decide +kernel
theorem dX6_write_0 : decode cX6_write 0 = .ok (.aload_n 1, 1) := by decide +kernel
theorem dX6_write_1 : decode cX6_write 1 = .ok (.invokevirtual 115, 3) := by decide +kernel
theorem dX6_write_4 : decode cX6_write 4 = .ok (.iconst 0, 1) := by decide +kernel
theorem dX6_write_5 : decode cX6_write 5 = .ok (.istore_n 2, 1) := by decide +kernel
theorem dX6_write_6 : decode cX6_write 6 = .ok (.iload_n 2, 1) := by decide +kernel
theorem dX6_write_7 : decode cX6_write 7 = .ok (.bipush 40, 2) := by decide +kernel
theorem dX6_write_9 : decode cX6_write 9 = .ok (.if_icmp .ge 101, 3) := by decide +kernel
theorem dX6_write_12 : decode cX6_write 12 = .ok (.aload_n 0, 1) := by decide +kernel
theorem dX6_write_13 : decode cX6_write 13 = .ok (.getfield 68, 3) := by decide +kernel
theorem dX6_write_16 : decode cX6_write 16 = .ok (.ifCond .le 94, 3) := by decide +kernel
theorem dX6_write_19 : decode cX6_write 19 = .ok (.aload_n 0, 1) := by decide +kernel
theorem dX6_write_20 : decode cX6_write 20 = .ok (.dup, 1) := by decide +kernel
theorem dX6_write_21 : decode cX6_write 21 = .ok (.getfield 68, 3) := by decide +kernel
theorem dX6_write_24 : decode cX6_write 24 = .ok (.iconst 1, 1) := by decide +kernel
theorem dX6_write_25 : decode cX6_write 25 = .ok (.isub, 1) := by decide +kernel
theorem dX6_write_26 : decode cX6_write 26 = .ok (.putfield 68, 3) := by decide +kernel
theorem dX6_write_29 : decode cX6_write 29 = .ok (.aload_n 0, 1) := by decide +kernel
theorem dX6_write_30 : decode cX6_write 30 = .ok (.getfield 39, 3) := by decide +kernel
theorem dX6_write_33 : decode cX6_write 33 = .ok (.aload_n 0, 1) := by decide +kernel
theorem dX6_write_34 : decode cX6_write 34 = .ok (.getfield 68, 3) := by decide +kernel
theorem dX6_write_37 : decode cX6_write 37 = .ok (.iaload, 1) := by decide +kernel
theorem dX6_write_38 : decode cX6_write 38 = .ok (.istore_n 3, 1) := by decide +kernel
theorem dX6_write_39 : decode cX6_write 39 = .ok (.aload_n 0, 1) := by decide +kernel
theorem dX6_write_40 : decode cX6_write 40 = .ok (.getfield 11, 3) := by decide +kernel
theorem dX6_write_43 : decode cX6_write 43 = .ok (.iload_n 3, 1) := by decide +kernel
theorem dX6_write_44 : decode cX6_write 44 = .ok (.iaload, 1) := by decide +kernel
theorem dX6_write_45 : decode cX6_write 45 = .ok (.istore 4, 2) := by decide +kernel
theorem dX6_write_47 : decode cX6_write 47 = .ok (.aload_n 1, 1) := by decide +kernel
theorem dX6_write_48 : decode cX6_write 48 = .ok (.iload 4, 2) := by decide +kernel
theorem dX6_write_50 : decode cX6_write 50 = .ok (.invokevirtual 118, 3) := by decide +kernel
theorem dX6_write_53 : decode cX6_write 53 = .ok (.pop, 1) := by decide +kernel
theorem dX6_write_54 : decode cX6_write 54 = .ok (.aload_n 0, 1) := by decide +kernel
theorem dX6_write_55 : decode cX6_write 55 = .ok (.getfield 45, 3) := by decide +kernel
theorem dX6_write_58 : decode cX6_write 58 = .ok (.getfield 112, 3) := by decide +kernel
theorem dX6_write_61 : decode cX6_write 61 = .ok (.iload 4, 2) := by decide +kernel
theorem dX6_write_63 : decode cX6_write 63 = .ok (.iaload, 1) := by decide +kernel
theorem dX6_write_64 : decode cX6_write 64 = .ok (.iconst 2, 1) := by decide +kernel
theorem dX6_write_65 : decode cX6_write 65 = .ok (.if_icmp .ne 14, 3) := by decide +kernel
theorem dX6_write_68 : decode cX6_write 68 = .ok (.aload_n 0, 1) := by decide +kernel
theorem dX6_write_69 : decode cX6_write 69 = .ok (.aload_n 0, 1) := by decide +kernel
theorem dX6_write_70 : decode cX6_write 70 = .ok (.getfield 18, 3) := by decide +kernel
theorem dX6_write_73 : decode cX6_write 73 = .ok (.iload_n 3, 1) := by decide +kernel
theorem dX6_write_74 : decode cX6_write 74 = .ok (.iaload, 1) := by decide +kernel
theorem dX6_write_75 : decode cX6_write 75 = .ok (.invokevirtual 90, 3) := by decide +kernel
theorem dX6_write_78 : decode cX6_write 78 = .ok (.pop, 1) := by decide +kernel
theorem dX6_write_79 : decode cX6_write 79 = .ok (.aload_n 0, 1) := by decide +kernel
theorem dX6_write_80 : decode cX6_write 80 = .ok (.getfield 45, 3) := by decide +kernel
theorem dX6_write_83 : decode cX6_write 83 = .ok (.getfield 112, 3) := by decide +kernel
theorem dX6_write_86 : decode cX6_write 86 = .ok (.iload 4, 2) := by decide +kernel
theorem dX6_write_88 : decode cX6_write 88 = .ok (.iaload, 1) := by decide +kernel
theorem dX6_write_89 : decode cX6_write 89 = .ok (.iconst 1, 1) := by decide +kernel
theorem dX6_write_90 : decode cX6_write 90 = .ok (.if_icmp .lt 14, 3) := by decide +kernel
theorem dX6_write_93 : decode cX6_write 93 = .ok (.aload_n 0, 1) := by decide +kernel
theorem dX6_write_94 : decode cX6_write 94 = .ok (.aload_n 0, 1) := by decide +kernel
theorem dX6_write_95 : decode cX6_write 95 = .ok (.getfield 15, 3) := by decide +kernel
theorem dX6_write_98 : decode cX6_write 98 = .ok (.iload_n 3, 1) := by decide +kernel
theorem dX6_write_99 : decode cX6_write 99 = .ok (.iaload, 1) := by decide +kernel
theorem dX6_write_100 : decode cX6_write 100 = .ok (.invokevirtual 90, 3) := by decide +kernel
theorem dX6_write_103 : decode cX6_write 103 = .ok (.pop, 1) := by decide +kernel
theorem dX6_write_104 : decode cX6_write 104 = .ok (.iinc 2 1, 3) := by decide +kernel
theorem dX6_write_107 : decode cX6_write 107 = .ok (.goto (-101), 3) := by decide +kernel
theorem dX6_write_110 : decode cX6_write 110 = .ok (.aload_n 1, 1) := by decide +kernel
theorem dX6_write_111 : decode cX6_write 111 = .ok (.aload_n 0, 1) := by decide +kernel
theorem dX6_write_112 : decode cX6_write 112 = .ok (.getfield 45, 3) := by decide +kernel
theorem dX6_write_115 : decode cX6_write 115 = .ok (.getfield 112, 3) := by decide +kernel
theorem dX6_write_118 : decode cX6_write 118 = .ok (.invokevirtual 121, 3) := by decide +kernel
theorem dX6_write_121 : decode cX6_write 121 = .ok (.return_, 1) := by decide +kernel
theorem dX7_init_0 : decode cX7_init 0 = .ok (.aload_n 0, 1) := by decide +kernel
theorem dX7_init_1 : decode cX7_init 1 = .ok (.invokespecial 3, 3) := by decide +kernel
theorem dX7_init_4 : decode cX7_init 4 = .ok (.aload_n 0, 1) := by decide +kernel
theorem dX7_init_5 : decode cX7_init 5 = .ok (.bipush 99, 2) := by decide +kernel
theorem dX7_init_7 : decode cX7_init 7 = .ok (.newarray .int, 2) := by decide +kernel
theorem dX7_init_9 : decode cX7_init 9 = .ok (.putfield 9, 3) := by decide +kernel
theorem dX7_init_12 : decode cX7_init 12 = .ok (.aload_n 0, 1) := by decide +kernel
theorem dX7_init_13 : decode cX7_init 13 = .ok (.bipush 99, 2) := by decide +kernel
theorem dX7_init_15 : decode cX7_init 15 = .ok (.newarray .int, 2) := by decide +kernel
theorem dX7_init_17 : decode cX7_init 17 = .ok (.putfield 15, 3) := by decide +kernel
theorem dX7_init_20 : decode cX7_init 20 = .ok (.aload_n 0, 1) := by decide +kernel
theorem dX7_init_21 : decode cX7_init 21 = .ok (.iconst 4, 1) := by decide +kernel
theorem dX7_init_22 : decode cX7_init 22 = .ok (.newarray .int, 2) := by decide +kernel
theorem dX7_init_24 : decode cX7_init 24 = .ok (.putfield 18, 3) := by decide +kernel
theorem dX7_init_27 : decode cX7_init 27 = .ok (.return_, 1) := by decide +kernel
theorem dX7_empty_0 : decode cX7_empty 0 = .ok (.aload_n 0, 1) := by decide +kernel
theorem dX7_empty_1 : decode cX7_empty 1 = .ok (.iconst 0, 1) := by decide +kernel
theorem dX7_empty_2 : decode cX7_empty 2 = .ok (.putfield 21, 3) := by decide +kernel
theorem dX7_empty_5 : decode cX7_empty 5 = .ok (.aload_n 0, 1) := by decide +kernel
theorem dX7_empty_6 : decode cX7_empty 6 = .ok (.iconst 0, 1) := by decide +kernel
theorem dX7_empty_7 : decode cX7_empty 7 = .ok (.putfield 25, 3) := by decide +kernel
theorem dX7_empty_10 : decode cX7_empty 10 = .ok (.return_, 1) := by decide +kernel
theorem dX7_write_0 : decode cX7_write 0 = .ok (.aload_n 0, 1) := by decide +kernel
theorem dX7_write_1 : decode cX7_write 1 = .ok (.getfield 21, 3) := by decide +kernel
theorem dX7_write_4 : decode cX7_write 4 = .ok (.ifCond .lt 42, 3) := by decide +kernel
theorem dX7_write_7 : decode cX7_write 7 = .ok (.aload_n 0, 1) := by decide +kernel
theorem dX7_write_8 : decode cX7_write 8 = .ok (.getfield 21, 3) := by decide +kernel
theorem dX7_write_11 : decode cX7_write 11 = .ok (.bipush 99, 2) := by decide +kernel
theorem dX7_write_13 : decode cX7_write 13 = .ok (.if_icmp .ge 33, 3) := by decide +kernel
theorem dX7_write_16 : decode cX7_write 16 = .ok (.aload_n 0, 1) := by decide +kernel
theorem dX7_write_17 : decode cX7_write 17 = .ok (.getfield 9, 3) := by decide +kernel
theorem dX7_write_20 : decode cX7_write 20 = .ok (.aload_n 0, 1) := by decide +kernel
theorem dX7_write_21 : decode cX7_write 21 = .ok (.getfield 21, 3) := by decide +kernel
theorem dX7_write_24 : decode cX7_write 24 = .ok (.iload_n 1, 1) := by decide +kernel
theorem dX7_write_25 : decode cX7_write 25 = .ok (.iastore, 1) := by decide +kernel
theorem dX7_write_26 : decode cX7_write 26 = .ok (.aload_n 0, 1) := by decide +kernel
theorem dX7_write_27 : decode cX7_write 27 = .ok (.getfield 15, 3) := by decide +kernel
theorem dX7_write_30 : decode cX7_write 30 = .ok (.aload_n 0, 1) := by decide +kernel
theorem dX7_write_31 : decode cX7_write 31 = .ok (.getfield 21, 3) := by decide +kernel
theorem dX7_write_34 : decode cX7_write 34 = .ok (.iload_n 2, 1) := by decide +kernel
theorem dX7_write_35 : decode cX7_write 35 = .ok (.iastore, 1) := by decide +kernel
theorem dX7_write_36 : decode cX7_write 36 = .ok (.aload_n 0, 1) := by decide +kernel
theorem dX7_write_37 : decode cX7_write 37 = .ok (.dup, 1) := by decide +kernel
theorem dX7_write_38 : decode cX7_write 38 = .ok (.getfield 21, 3) := by decide +kernel
theorem dX7_write_41 : decode cX7_write 41 = .ok (.iconst 1, 1) := by decide +kernel
theorem dX7_write_42 : decode cX7_write 42 = .ok (.iadd, 1) := by decide +kernel
theorem dX7_write_43 : decode cX7_write 43 = .ok (.putfield 21, 3) := by decide +kernel
theorem dX7_write_46 : decode cX7_write 46 = .ok (.return_, 1) := by decide +kernel
theorem dX7_blame_0 : decode cX7_blame 0 = .ok (.iload_n 1, 1) := by decide +kernel
theorem dX7_blame_1 : decode cX7_blame 1 = .ok (.ifCond .lt 29, 3) := by decide +kernel
theorem dX7_blame_4 : decode cX7_blame 4 = .ok (.iload_n 1, 1) := by decide +kernel
theorem dX7_blame_5 : decode cX7_blame 5 = .ok (.iconst 4, 1) := by decide +kernel
theorem dX7_blame_6 : decode cX7_blame 6 = .ok (.if_icmp .ge 24, 3) := by decide +kernel
theorem dX7_blame_9 : decode cX7_blame 9 = .ok (.aload_n 0, 1) := by decide +kernel
theorem dX7_blame_10 : decode cX7_blame 10 = .ok (.getfield 18, 3) := by decide +kernel
theorem dX7_blame_13 : decode cX7_blame 13 = .ok (.iload_n 1, 1) := by decide +kernel
theorem dX7_blame_14 : decode cX7_blame 14 = .ok (.iload_n 2, 1) := by decide +kernel
theorem dX7_blame_15 : decode cX7_blame 15 = .ok (.iastore, 1) := by decide +kernel
theorem dX7_blame_16 : decode cX7_blame 16 = .ok (.aload_n 0, 1) := by decide +kernel
theorem dX7_blame_17 : decode cX7_blame 17 = .ok (.aload_n 0, 1) := by decide +kernel
theorem dX7_blame_18 : decode cX7_blame 18 = .ok (.getfield 25, 3) := by decide +kernel
theorem dX7_blame_21 : decode cX7_blame 21 = .ok (.iload_n 1, 1) := by decide +kernel
theorem dX7_blame_22 : decode cX7_blame 22 = .ok (.iconst 1, 1) := by decide +kernel
theorem dX7_blame_23 : decode cX7_blame 23 = .ok (.iadd, 1) := by decide +kernel
theorem dX7_blame_24 : decode cX7_blame 24 = .ok (.invokestatic 28, 3) := by decide +kernel
theorem dX7_blame_27 : decode cX7_blame 27 = .ok (.putfield 25, 3) := by decide +kernel
theorem dX7_blame_30 : decode cX7_blame 30 = .ok (.return_, 1) := by decide +kernel
theorem dX8_init_0 : decode cX8_init 0 = .ok (.aload_n 0, 1) := by decide +kernel
theorem dX8_init_1 : decode cX8_init 1 = .ok (.invokespecial 3, 3) := by decide +kernel
theorem dX8_init_4 : decode cX8_init 4 = .ok (.aload_n 0, 1) := by decide +kernel
theorem dX8_init_5 : decode cX8_init 5 = .ok (.iconst 3, 1) := by decide +kernel
theorem dX8_init_6 : decode cX8_init 6 = .ok (.anewarray 9, 3) := by decide +kernel
theorem dX8_init_9 : decode cX8_init 9 = .ok (.putfield 11, 3) := by decide +kernel
theorem dX8_init_12 : decode cX8_init 12 = .ok (.aload_n 0, 1) := by decide +kernel
theorem dX8_init_13 : decode cX8_init 13 = .ok (.iconst 3, 1) := by decide +kernel
theorem dX8_init_14 : decode cX8_init 14 = .ok (.anewarray 9, 3) := by decide +kernel
theorem dX8_init_17 : decode cX8_init 17 = .ok (.putfield 17, 3) := by decide +kernel
theorem dX8_init_20 : decode cX8_init 20 = .ok (.aload_n 0, 1) := by decide +kernel
theorem dX8_init_21 : decode cX8_init 21 = .ok (.iconst 3, 1) := by decide +kernel
theorem dX8_init_22 : decode cX8_init 22 = .ok (.anewarray 9, 3) := by decide +kernel
theorem dX8_init_25 : decode cX8_init 25 = .ok (.putfield 20, 3) := by decide +kernel
theorem dX8_init_28 : decode cX8_init 28 = .ok (.aload_n 0, 1) := by decide +kernel
theorem dX8_init_29 : decode cX8_init 29 = .ok (.new 23, 3) := by decide +kernel
theorem dX8_init_32 : decode cX8_init 32 = .ok (.dup, 1) := by decide +kernel
theorem dX8_init_33 : decode cX8_init 33 = .ok (.invokespecial 25, 3) := by decide +kernel
theorem dX8_init_36 : decode cX8_init 36 = .ok (.putfield 26, 3) := by decide +kernel
theorem dX8_init_39 : decode cX8_init 39 = .ok (.aload_n 0, 1) := by decide +kernel
theorem dX8_init_40 : decode cX8_init 40 = .ok (.aload_n 1, 1) := by decide +kernel
theorem dX8_init_41 : decode cX8_init 41 = .ok (.putfield 30, 3) := by decide +kernel
theorem dX8_init_44 : decode cX8_init 44 = .ok (.aload_n 0, 1) := by decide +kernel
theorem dX8_init_45 : decode cX8_init 45 = .ok (.aload_n 2, 1) := by decide +kernel
theorem dX8_init_46 : decode cX8_init 46 = .ok (.putfield 34, 3) := by decide +kernel
theorem dX8_init_49 : decode cX8_init 49 = .ok (.aload_n 0, 1) := by decide +kernel
theorem dX8_init_50 : decode cX8_init 50 = .ok (.aload_n 3, 1) := by decide +kernel
theorem dX8_init_51 : decode cX8_init 51 = .ok (.putfield 38, 3) := by decide +kernel
theorem dX8_init_54 : decode cX8_init 54 = .ok (.aload_n 0, 1) := by decide +kernel
theorem dX8_init_55 : decode cX8_init 55 = .ok (.aload 4, 2) := by decide +kernel
theorem dX8_init_57 : decode cX8_init 57 = .ok (.putfield 42, 3) := by decide +kernel
theorem dX8_init_60 : decode cX8_init 60 = .ok (.aload_n 0, 1) := by decide +kernel
theorem dX8_init_61 : decode cX8_init 61 = .ok (.aload 5, 2) := by decide +kernel
theorem dX8_init_63 : decode cX8_init 63 = .ok (.putfield 46, 3) := by decide +kernel
theorem dX8_init_66 : decode cX8_init 66 = .ok (.aload_n 0, 1) := by decide +kernel
theorem dX8_init_67 : decode cX8_init 67 = .ok (.aload 6, 2) := by decide +kernel
theorem dX8_init_69 : decode cX8_init 69 = .ok (.putfield 50, 3) := by decide +kernel
theorem dX8_init_72 : decode cX8_init 72 = .ok (.iconst 0, 1) := by decide +kernel
theorem dX8_init_73 : decode cX8_init 73 = .ok (.istore 7, 2) := by decide +kernel
theorem dX8_init_75 : decode cX8_init 75 = .ok (.iload 7, 2) := by decide +kernel
theorem dX8_init_77 : decode cX8_init 77 = .ok (.iconst 3, 1) := by decide +kernel
theorem dX8_init_78 : decode cX8_init 78 = .ok (.if_icmp .ge 51, 3) := by decide +kernel
theorem dX8_init_81 : decode cX8_init 81 = .ok (.aload_n 0, 1) := by decide +kernel
theorem dX8_init_82 : decode cX8_init 82 = .ok (.getfield 11, 3) := by decide +kernel
theorem dX8_init_85 : decode cX8_init 85 = .ok (.iload 7, 2) := by decide +kernel
theorem dX8_init_87 : decode cX8_init 87 = .ok (.new 9, 3) := by decide +kernel
theorem dX8_init_90 : decode cX8_init 90 = .ok (.dup, 1) := by decide +kernel
theorem dX8_init_91 : decode cX8_init 91 = .ok (.invokespecial 54, 3) := by decide +kernel
theorem dX8_init_94 : decode cX8_init 94 = .ok (.aastore, 1) := by decide +kernel
theorem dX8_init_95 : decode cX8_init 95 = .ok (.aload_n 0, 1) := by decide +kernel
theorem dX8_init_96 : decode cX8_init 96 = .ok (.getfield 17, 3) := by decide +kernel
theorem dX8_init_99 : decode cX8_init 99 = .ok (.iload 7, 2) := by decide +kernel
theorem dX8_init_101 : decode cX8_init 101 = .ok (.new 9, 3) := by decide +kernel
theorem dX8_init_104 : decode cX8_init 104 = .ok (.dup, 1) := by decide +kernel
theorem dX8_init_105 : decode cX8_init 105 = .ok (.invokespecial 54, 3) := by decide +kernel
theorem dX8_init_108 : decode cX8_init 108 = .ok (.aastore, 1) := by decide +kernel
theorem dX8_init_109 : decode cX8_init 109 = .ok (.aload_n 0, 1) := by decide +kernel
theorem dX8_init_110 : decode cX8_init 110 = .ok (.getfield 20, 3) := by decide +kernel
theorem dX8_init_113 : decode cX8_init 113 = .ok (.iload 7, 2) := by decide +kernel
theorem dX8_init_115 : decode cX8_init 115 = .ok (.new 9, 3) := by decide +kernel
theorem dX8_init_118 : decode cX8_init 118 = .ok (.dup, 1) := by decide +kernel
theorem dX8_init_119 : decode cX8_init 119 = .ok (.invokespecial 54, 3) := by decide +kernel
theorem dX8_init_122 : decode cX8_init 122 = .ok (.aastore, 1) := by decide +kernel
theorem dX8_init_123 : decode cX8_init 123 = .ok (.iinc 7 1, 3) := by decide +kernel
theorem dX8_init_126 : decode cX8_init 126 = .ok (.goto (-51), 3) := by decide +kernel
theorem dX8_init_129 : decode cX8_init 129 = .ok (.return_, 1) := by decide +kernel
theorem dX8_attempt_0 : decode cX8_attempt 0 = .ok (.iload_n 1, 1) := by decide +kernel
theorem dX8_attempt_1 : decode cX8_attempt 1 = .ok (.ifCond .lt 8, 3) := by decide +kernel
theorem dX8_attempt_4 : decode cX8_attempt 4 = .ok (.iload_n 1, 1) := by decide +kernel
theorem dX8_attempt_5 : decode cX8_attempt 5 = .ok (.iconst 3, 1) := by decide +kernel
theorem dX8_attempt_6 : decode cX8_attempt 6 = .ok (.if_icmp .lt 5, 3) := by decide +kernel
theorem dX8_attempt_9 : decode cX8_attempt 9 = .ok (.iconst 2, 1) := by decide +kernel
theorem dX8_attempt_10 : decode cX8_attempt 10 = .ok (.ireturn, 1) := by decide +kernel
theorem dX8_attempt_11 : decode cX8_attempt 11 = .ok (.aload_n 0, 1) := by decide +kernel
theorem dX8_attempt_12 : decode cX8_attempt 12 = .ok (.getfield 50, 3) := by decide +kernel
theorem dX8_attempt_15 : decode cX8_attempt 15 = .ok (.iconst 0, 1) := by decide +kernel
theorem dX8_attempt_16 : decode cX8_attempt 16 = .ok (.iload_n 1, 1) := by decide +kernel
theorem dX8_attempt_17 : decode cX8_attempt 17 = .ok (.invokevirtual 55, 3) := by decide +kernel
theorem dX8_attempt_20 : decode cX8_attempt 20 = .ok (.aload_n 0, 1) := by decide +kernel
theorem dX8_attempt_21 : decode cX8_attempt 21 = .ok (.getfield 34, 3) := by decide +kernel
theorem dX8_attempt_24 : decode cX8_attempt 24 = .ok (.aload_n 0, 1) := by decide +kernel
theorem dX8_attempt_25 : decode cX8_attempt 25 = .ok (.getfield 11, 3) := by decide +kernel
theorem dX8_attempt_28 : decode cX8_attempt 28 = .ok (.iload_n 1, 1) := by decide +kernel
theorem dX8_attempt_29 : decode cX8_attempt 29 = .ok (.aaload, 1) := by decide +kernel
theorem dX8_attempt_30 : decode cX8_attempt 30 = .ok (.invokevirtual 61, 3) := by decide +kernel
theorem dX8_attempt_33 : decode cX8_attempt 33 = .ok (.ifCond .eq 10, 3) := by decide +kernel
theorem dX8_attempt_36 : decode cX8_attempt 36 = .ok (.aload_n 0, 1) := by decide +kernel
theorem dX8_attempt_37 : decode cX8_attempt 37 = .ok (.iload_n 1, 1) := by decide +kernel
theorem dX8_attempt_38 : decode cX8_attempt 38 = .ok (.iconst 1, 1) := by decide +kernel
theorem dX8_attempt_39 : decode cX8_attempt 39 = .ok (.invokevirtual 67, 3) := by decide +kernel
theorem dX8_attempt_42 : decode cX8_attempt 42 = .ok (.ireturn, 1) := by decide +kernel
theorem dX8_attempt_43 : decode cX8_attempt 43 = .ok (.aload_n 0, 1) := by decide +kernel
theorem dX8_attempt_44 : decode cX8_attempt 44 = .ok (.getfield 17, 3) := by decide +kernel
theorem dX8_attempt_47 : decode cX8_attempt 47 = .ok (.iload_n 1, 1) := by decide +kernel
theorem dX8_attempt_48 : decode cX8_attempt 48 = .ok (.aaload, 1) := by decide +kernel
theorem dX8_attempt_49 : decode cX8_attempt 49 = .ok (.astore_n 2, 1) := by decide +kernel
theorem dX8_attempt_50 : decode cX8_attempt 50 = .ok (.aload_n 0, 1) := by decide +kernel
theorem dX8_attempt_51 : decode cX8_attempt 51 = .ok (.aload_n 0, 1) := by decide +kernel
theorem dX8_attempt_52 : decode cX8_attempt 52 = .ok (.getfield 11, 3) := by decide +kernel
theorem dX8_attempt_55 : decode cX8_attempt 55 = .ok (.iload_n 1, 1) := by decide +kernel
theorem dX8_attempt_56 : decode cX8_attempt 56 = .ok (.aaload, 1) := by decide +kernel
theorem dX8_attempt_57 : decode cX8_attempt 57 = .ok (.aload_n 2, 1) := by decide +kernel
theorem dX8_attempt_58 : decode cX8_attempt 58 = .ok (.bipush (-9), 2) := by decide +kernel
theorem dX8_attempt_60 : decode cX8_attempt 60 = .ok (.iconst 0, 1) := by decide +kernel
theorem dX8_attempt_61 : decode cX8_attempt 61 = .ok (.iconst 0, 1) := by decide +kernel
theorem dX8_attempt_62 : decode cX8_attempt 62 = .ok (.invokevirtual 71, 3) := by decide +kernel
theorem dX8_attempt_65 : decode cX8_attempt 65 = .ok (.ifCond .ne 5, 3) := by decide +kernel
theorem dX8_attempt_68 : decode cX8_attempt 68 = .ok (.iconst 3, 1) := by decide +kernel
theorem dX8_attempt_69 : decode cX8_attempt 69 = .ok (.ireturn, 1) := by decide +kernel
theorem dX8_attempt_70 : decode cX8_attempt 70 = .ok (.aload_n 2, 1) := by decide +kernel
theorem dX8_attempt_71 : decode cX8_attempt 71 = .ok (.invokevirtual 75, 3) := by decide +kernel
theorem dX8_attempt_74 : decode cX8_attempt 74 = .ok (.ifCond .eq 18, 3) := by decide +kernel
theorem dX8_attempt_77 : decode cX8_attempt 77 = .ok (.aload_n 0, 1) := by decide +kernel
theorem dX8_attempt_78 : decode cX8_attempt 78 = .ok (.getfield 50, 3) := by decide +kernel
theorem dX8_attempt_81 : decode cX8_attempt 81 = .ok (.iconst 1, 1) := by decide +kernel
theorem dX8_attempt_82 : decode cX8_attempt 82 = .ok (.iconst 0, 1) := by decide +kernel
theorem dX8_attempt_83 : decode cX8_attempt 83 = .ok (.invokevirtual 55, 3) := by decide +kernel
theorem dX8_attempt_86 : decode cX8_attempt 86 = .ok (.aload_n 0, 1) := by decide +kernel
theorem dX8_attempt_87 : decode cX8_attempt 87 = .ok (.iload_n 1, 1) := by decide +kernel
theorem dX8_attempt_88 : decode cX8_attempt 88 = .ok (.invokevirtual 79, 3) := by decide +kernel
theorem dX8_attempt_91 : decode cX8_attempt 91 = .ok (.ireturn, 1) := by decide +kernel
theorem dX8_attempt_92 : decode cX8_attempt 92 = .ok (.aload_n 2, 1) := by decide +kernel
theorem dX8_attempt_93 : decode cX8_attempt 93 = .ok (.aload_n 0, 1) := by decide +kernel
theorem dX8_attempt_94 : decode cX8_attempt 94 = .ok (.getfield 30, 3) := by decide +kernel
theorem dX8_attempt_97 : decode cX8_attempt 97 = .ok (.invokevirtual 83, 3) := by decide +kernel
theorem dX8_attempt_100 : decode cX8_attempt 100 = .ok (.istore_n 3, 1) := by decide +kernel
theorem dX8_attempt_101 : decode cX8_attempt 101 = .ok (.iload_n 3, 1) := by decide +kernel
theorem dX8_attempt_102 : decode cX8_attempt 102 = .ok (.bipush (-9), 2) := by decide +kernel
theorem dX8_attempt_104 : decode cX8_attempt 104 = .ok (.if_icmp .ne 10, 3) := by decide +kernel
theorem dX8_attempt_107 : decode cX8_attempt 107 = .ok (.aload_n 0, 1) := by decide +kernel
theorem dX8_attempt_108 : decode cX8_attempt 108 = .ok (.iload_n 1, 1) := by decide +kernel
theorem dX8_attempt_109 : decode cX8_attempt 109 = .ok (.iconst 2, 1) := by decide +kernel
theorem dX8_attempt_110 : decode cX8_attempt 110 = .ok (.invokevirtual 67, 3) := by decide +kernel
theorem dX8_attempt_113 : decode cX8_attempt 113 = .ok (.ireturn, 1) := by decide +kernel
theorem dX8_attempt_114 : decode cX8_attempt 114 = .ok (.aload_n 2, 1) := by decide +kernel
theorem dX8_attempt_115 : decode cX8_attempt 115 = .ok (.iload_n 3, 1) := by decide +kernel
theorem dX8_attempt_116 : decode cX8_attempt 116 = .ok (.aload_n 0, 1) := by decide +kernel
theorem dX8_attempt_117 : decode cX8_attempt 117 = .ok (.getfield 30, 3) := by decide +kernel
theorem dX8_attempt_120 : decode cX8_attempt 120 = .ok (.invokevirtual 87, 3) := by decide +kernel
theorem dX8_attempt_123 : decode cX8_attempt 123 = .ok (.istore 4, 2) := by decide +kernel
theorem dX8_attempt_125 : decode cX8_attempt 125 = .ok (.aload_n 0, 1) := by decide +kernel
theorem dX8_attempt_126 : decode cX8_attempt 126 = .ok (.getfield 50, 3) := by decide +kernel
theorem dX8_attempt_129 : decode cX8_attempt 129 = .ok (.iconst 2, 1) := by decide +kernel
theorem dX8_attempt_130 : decode cX8_attempt 130 = .ok (.bipush 10, 2) := by decide +kernel
theorem dX8_attempt_132 : decode cX8_attempt 132 = .ok (.iload 4, 2) := by decide +kernel
theorem dX8_attempt_134 : decode cX8_attempt 134 = .ok (.imul, 1) := by decide +kernel
theorem dX8_attempt_135 : decode cX8_attempt 135 = .ok (.iload_n 3, 1) := by decide +kernel
theorem dX8_attempt_136 : decode cX8_attempt 136 = .ok (.iadd, 1) := by decide +kernel
theorem dX8_attempt_137 : decode cX8_attempt 137 = .ok (.invokevirtual 55, 3) := by decide +kernel
theorem dX8_attempt_140 : decode cX8_attempt 140 = .ok (.iconst 0, 1) := by decide +kernel
theorem dX8_attempt_141 : decode cX8_attempt 141 = .ok (.istore 5, 2) := by decide +kernel
theorem dX8_attempt_143 : decode cX8_attempt 143 = .ok (.iload 5, 2) := by decide +kernel
theorem dX8_attempt_145 : decode cX8_attempt 145 = .ok (.iload 4, 2) := by decide +kernel
theorem dX8_attempt_147 : decode cX8_attempt 147 = .ok (.if_icmp .gt 41, 3) := by decide +kernel
theorem dX8_attempt_150 : decode cX8_attempt 150 = .ok (.aload_n 0, 1) := by decide +kernel
theorem dX8_attempt_151 : decode cX8_attempt 151 = .ok (.iload_n 1, 1) := by decide +kernel
theorem dX8_attempt_152 : decode cX8_attempt 152 = .ok (.iload 5, 2) := by decide +kernel
theorem dX8_attempt_154 : decode cX8_attempt 154 = .ok (.iload_n 3, 1) := by decide +kernel
theorem dX8_attempt_155 : decode cX8_attempt 155 = .ok (.iload 4, 2) := by decide +kernel
theorem dX8_attempt_157 : decode cX8_attempt 157 = .ok (.invokevirtual 91, 3) := by decide +kernel
theorem dX8_attempt_160 : decode cX8_attempt 160 = .ok (.istore 6, 2) := by decide +kernel
theorem dX8_attempt_162 : decode cX8_attempt 162 = .ok (.iload 6, 2) := by decide +kernel
theorem dX8_attempt_164 : decode cX8_attempt 164 = .ok (.iconst 3, 1) := by decide +kernel
theorem dX8_attempt_165 : decode cX8_attempt 165 = .ok (.if_icmp .ne 5, 3) := by decide +kernel
theorem dX8_attempt_168 : decode cX8_attempt 168 = .ok (.iconst 3, 1) := by decide +kernel
theorem dX8_attempt_169 : decode cX8_attempt 169 = .ok (.ireturn, 1) := by decide +kernel
theorem dX8_attempt_170 : decode cX8_attempt 170 = .ok (.iload 6, 2) := by decide +kernel
theorem dX8_attempt_172 : decode cX8_attempt 172 = .ok (.ifCond .eq 10, 3) := by decide +kernel
theorem dX8_attempt_175 : decode cX8_attempt 175 = .ok (.aload_n 0, 1) := by decide +kernel
theorem dX8_attempt_176 : decode cX8_attempt 176 = .ok (.iload_n 1, 1) := by decide +kernel
theorem dX8_attempt_177 : decode cX8_attempt 177 = .ok (.iconst 2, 1) := by decide +kernel
theorem dX8_attempt_178 : decode cX8_attempt 178 = .ok (.invokevirtual 67, 3) := by decide +kernel
theorem dX8_attempt_181 : decode cX8_attempt 181 = .ok (.ireturn, 1) := by decide +kernel
theorem dX8_attempt_182 : decode cX8_attempt 182 = .ok (.iinc 5 1, 3) := by decide +kernel
theorem dX8_attempt_185 : decode cX8_attempt 185 = .ok (.goto (-42), 3) := by decide +kernel
theorem dX8_attempt_188 : decode cX8_attempt 188 = .ok (.aload_n 0, 1) := by decide +kernel
theorem dX8_attempt_189 : decode cX8_attempt 189 = .ok (.iload_n 1, 1) := by decide +kernel
theorem dX8_attempt_190 : decode cX8_attempt 190 = .ok (.invokevirtual 79, 3) := by decide +kernel
theorem dX8_attempt_193 : decode cX8_attempt 193 = .ok (.ireturn, 1) := by decide +kernel
theorem dX8_proveCase_0 : decode cX8_proveCase 0 = .ok (.aload_n 0, 1) := by decide +kernel
theorem dX8_proveCase_1 : decode cX8_proveCase 1 = .ok (.getfield 50, 3) := by decide +kernel
theorem dX8_proveCase_4 : decode cX8_proveCase 4 = .ok (.iconst 3, 1) := by decide +kernel
theorem dX8_proveCase_5 : decode cX8_proveCase 5 = .ok (.iload_n 2, 1) := by decide +kernel
theorem dX8_proveCase_6 : decode cX8_proveCase 6 = .ok (.invokevirtual 55, 3) := by decide +kernel
theorem dX8_proveCase_9 : decode cX8_proveCase 9 = .ok (.iload_n 2, 1) := by decide +kernel
theorem dX8_proveCase_10 : decode cX8_proveCase 10 = .ok (.iload 4, 2) := by decide +kernel
theorem dX8_proveCase_12 : decode cX8_proveCase 12 = .ok (.if_icmp .ne 7, 3) := by decide +kernel
theorem dX8_proveCase_15 : decode cX8_proveCase 15 = .ok (.iconst 1, 1) := by decide +kernel
theorem dX8_proveCase_16 : decode cX8_proveCase 16 = .ok (.goto 4, 3) := by decide +kernel
theorem dX8_proveCase_19 : decode cX8_proveCase 19 = .ok (.iconst 0, 1) := by decide +kernel
theorem dX8_proveCase_20 : decode cX8_proveCase 20 = .ok (.istore 5, 2) := by decide +kernel
theorem dX8_proveCase_22 : decode cX8_proveCase 22 = .ok (.aload_n 0, 1) := by decide +kernel
theorem dX8_proveCase_23 : decode cX8_proveCase 23 = .ok (.getfield 17, 3) := by decide +kernel
theorem dX8_proveCase_26 : decode cX8_proveCase 26 = .ok (.iload_n 1, 1) := by decide +kernel
theorem dX8_proveCase_27 : decode cX8_proveCase 27 = .ok (.aaload, 1) := by decide +kernel
theorem dX8_proveCase_28 : decode cX8_proveCase 28 = .ok (.astore 6, 2) := by decide +kernel
theorem dX8_proveCase_30 : decode cX8_proveCase 30 = .ok (.aload_n 0, 1) := by decide +kernel
theorem dX8_proveCase_31 : decode cX8_proveCase 31 = .ok (.getfield 20, 3) := by decide +kernel
theorem dX8_proveCase_34 : decode cX8_proveCase 34 = .ok (.iload_n 1, 1) := by decide +kernel
theorem dX8_proveCase_35 : decode cX8_proveCase 35 = .ok (.aaload, 1) := by decide +kernel
theorem dX8_proveCase_36 : decode cX8_proveCase 36 = .ok (.astore 7, 2) := by decide +kernel
theorem dX8_proveCase_38 : decode cX8_proveCase 38 = .ok (.aload_n 0, 1) := by decide +kernel
theorem dX8_proveCase_39 : decode cX8_proveCase 39 = .ok (.aload 6, 2) := by decide +kernel
theorem dX8_proveCase_41 : decode cX8_proveCase 41 = .ok (.aload 7, 2) := by decide +kernel
theorem dX8_proveCase_43 : decode cX8_proveCase 43 = .ok (.iload_n 3, 1) := by decide +kernel
theorem dX8_proveCase_44 : decode cX8_proveCase 44 = .ok (.iload_n 2, 1) := by decide +kernel
theorem dX8_proveCase_45 : decode cX8_proveCase 45 = .ok (.iload 5, 2) := by decide +kernel
theorem dX8_proveCase_47 : decode cX8_proveCase 47 = .ok (.invokevirtual 71, 3) := by decide +kernel
theorem dX8_proveCase_50 : decode cX8_proveCase 50 = .ok (.ifCond .ne 5, 3) := by decide +kernel
theorem dX8_proveCase_53 : decode cX8_proveCase 53 = .ok (.iconst 3, 1) := by decide +kernel
theorem dX8_proveCase_54 : decode cX8_proveCase 54 = .ok (.ireturn, 1) := by decide +kernel
theorem dX8_proveCase_55 : decode cX8_proveCase 55 = .ok (.aload 7, 2) := by decide +kernel
theorem dX8_proveCase_57 : decode cX8_proveCase 57 = .ok (.invokevirtual 75, 3) := by decide +kernel
theorem dX8_proveCase_60 : decode cX8_proveCase 60 = .ok (.ifCond .eq 5, 3) := by decide +kernel
theorem dX8_proveCase_63 : decode cX8_proveCase 63 = .ok (.iconst 0, 1) := by decide +kernel
theorem dX8_proveCase_64 : decode cX8_proveCase 64 = .ok (.ireturn, 1) := by decide +kernel
theorem dX8_proveCase_65 : decode cX8_proveCase 65 = .ok (.iload 5, 2) := by decide +kernel
theorem dX8_proveCase_67 : decode cX8_proveCase 67 = .ok (.ifCond .eq 72, 3) := by decide +kernel
theorem dX8_proveCase_70 : decode cX8_proveCase 70 = .ok (.aload_n 0, 1) := by decide +kernel
theorem dX8_proveCase_71 : decode cX8_proveCase 71 = .ok (.aload 6, 2) := by decide +kernel
theorem dX8_proveCase_73 : decode cX8_proveCase 73 = .ok (.getfield 95, 3) := by decide +kernel
theorem dX8_proveCase_76 : decode cX8_proveCase 76 = .ok (.aload 7, 2) := by decide +kernel
theorem dX8_proveCase_78 : decode cX8_proveCase 78 = .ok (.getfield 95, 3) := by decide +kernel
theorem dX8_proveCase_81 : decode cX8_proveCase 81 = .ok (.iconst 0, 1) := by decide +kernel
theorem dX8_proveCase_82 : decode cX8_proveCase 82 = .ok (.invokevirtual 98, 3) := by decide +kernel
theorem dX8_proveCase_85 : decode cX8_proveCase 85 = .ok (.aload_n 0, 1) := by decide +kernel
theorem dX8_proveCase_86 : decode cX8_proveCase 86 = .ok (.aload 6, 2) := by decide +kernel
theorem dX8_proveCase_88 : decode cX8_proveCase 88 = .ok (.getfield 102, 3) := by decide +kernel
theorem dX8_proveCase_91 : decode cX8_proveCase 91 = .ok (.aload 7, 2) := by decide +kernel
theorem dX8_proveCase_93 : decode cX8_proveCase 93 = .ok (.getfield 102, 3) := by decide +kernel
theorem dX8_proveCase_96 : decode cX8_proveCase 96 = .ok (.iconst 1, 1) := by decide +kernel
theorem dX8_proveCase_97 : decode cX8_proveCase 97 = .ok (.invokevirtual 98, 3) := by decide +kernel
theorem dX8_proveCase_100 : decode cX8_proveCase 100 = .ok (.aload_n 0, 1) := by decide +kernel
theorem dX8_proveCase_101 : decode cX8_proveCase 101 = .ok (.aload 6, 2) := by decide +kernel
theorem dX8_proveCase_103 : decode cX8_proveCase 103 = .ok (.aload 7, 2) := by decide +kernel
theorem dX8_proveCase_105 : decode cX8_proveCase 105 = .ok (.iload_n 3, 1) := by decide +kernel
theorem dX8_proveCase_106 : decode cX8_proveCase 106 = .ok (.invokevirtual 105, 3) := by decide +kernel
theorem dX8_proveCase_109 : decode cX8_proveCase 109 = .ok (.ifCond .eq 18, 3) := by decide +kernel
theorem dX8_proveCase_112 : decode cX8_proveCase 112 = .ok (.aload_n 0, 1) := by decide +kernel
theorem dX8_proveCase_113 : decode cX8_proveCase 113 = .ok (.aload 7, 2) := by decide +kernel
theorem dX8_proveCase_115 : decode cX8_proveCase 115 = .ok (.aload 7, 2) := by decide +kernel
theorem dX8_proveCase_117 : decode cX8_proveCase 117 = .ok (.bipush (-9), 2) := by decide +kernel
theorem dX8_proveCase_119 : decode cX8_proveCase 119 = .ok (.iconst 0, 1) := by decide +kernel
theorem dX8_proveCase_120 : decode cX8_proveCase 120 = .ok (.iconst 0, 1) := by decide +kernel
theorem dX8_proveCase_121 : decode cX8_proveCase 121 = .ok (.invokevirtual 71, 3) := by decide +kernel
theorem dX8_proveCase_124 : decode cX8_proveCase 124 = .ok (.ifCond .ne 5, 3) := by decide +kernel
theorem dX8_proveCase_127 : decode cX8_proveCase 127 = .ok (.iconst 3, 1) := by decide +kernel
theorem dX8_proveCase_128 : decode cX8_proveCase 128 = .ok (.ireturn, 1) := by decide +kernel
theorem dX8_proveCase_129 : decode cX8_proveCase 129 = .ok (.aload 7, 2) := by decide +kernel
theorem dX8_proveCase_131 : decode cX8_proveCase 131 = .ok (.invokevirtual 75, 3) := by decide +kernel
theorem dX8_proveCase_134 : decode cX8_proveCase 134 = .ok (.ifCond .eq 5, 3) := by decide +kernel
theorem dX8_proveCase_137 : decode cX8_proveCase 137 = .ok (.iconst 0, 1) := by decide +kernel
theorem dX8_proveCase_138 : decode cX8_proveCase 138 = .ok (.ireturn, 1) := by decide +kernel
theorem dX8_proveCase_139 : decode cX8_proveCase 139 = .ok (.iload_n 1, 1) := by decide +kernel
theorem dX8_proveCase_140 : decode cX8_proveCase 140 = .ok (.iconst 1, 1) := by decide +kernel
theorem dX8_proveCase_141 : decode cX8_proveCase 141 = .ok (.iadd, 1) := by decide +kernel
theorem dX8_proveCase_142 : decode cX8_proveCase 142 = .ok (.iconst 3, 1) := by decide +kernel
theorem dX8_proveCase_143 : decode cX8_proveCase 143 = .ok (.if_icmp .lt 16, 3) := by decide +kernel
theorem dX8_proveCase_146 : decode cX8_proveCase 146 = .ok (.aload_n 0, 1) := by decide +kernel
theorem dX8_proveCase_147 : decode cX8_proveCase 147 = .ok (.getfield 50, 3) := by decide +kernel
theorem dX8_proveCase_150 : decode cX8_proveCase 150 = .ok (.iload_n 1, 1) := by decide +kernel
theorem dX8_proveCase_151 : decode cX8_proveCase 151 = .ok (.iconst 1, 1) := by decide +kernel
theorem dX8_proveCase_152 : decode cX8_proveCase 152 = .ok (.iadd, 1) := by decide +kernel
theorem dX8_proveCase_153 : decode cX8_proveCase 153 = .ok (.iconst 4, 1) := by decide +kernel
theorem dX8_proveCase_154 : decode cX8_proveCase 154 = .ok (.invokevirtual 109, 3) := by decide +kernel
theorem dX8_proveCase_157 : decode cX8_proveCase 157 = .ok (.iconst 2, 1) := by decide +kernel
theorem dX8_proveCase_158 : decode cX8_proveCase 158 = .ok (.ireturn, 1) := by decide +kernel
theorem dX8_proveCase_159 : decode cX8_proveCase 159 = .ok (.aload_n 0, 1) := by decide +kernel
theorem dX8_proveCase_160 : decode cX8_proveCase 160 = .ok (.getfield 50, 3) := by decide +kernel
theorem dX8_proveCase_163 : decode cX8_proveCase 163 = .ok (.bipush 6, 2) := by decide +kernel
theorem dX8_proveCase_165 : decode cX8_proveCase 165 = .ok (.aload_n 0, 1) := by decide +kernel
theorem dX8_proveCase_166 : decode cX8_proveCase 166 = .ok (.aload 7, 2) := by decide +kernel
theorem dX8_proveCase_168 : decode cX8_proveCase 168 = .ok (.aload_n 0, 1) := by decide +kernel
theorem dX8_proveCase_169 : decode cX8_proveCase 169 = .ok (.getfield 11, 3) := by decide +kernel
theorem dX8_proveCase_172 : decode cX8_proveCase 172 = .ok (.iload_n 1, 1) := by decide +kernel
theorem dX8_proveCase_173 : decode cX8_proveCase 173 = .ok (.iconst 1, 1) := by decide +kernel
theorem dX8_proveCase_174 : decode cX8_proveCase 174 = .ok (.iadd, 1) := by decide +kernel
theorem dX8_proveCase_175 : decode cX8_proveCase 175 = .ok (.aaload, 1) := by decide +kernel
theorem dX8_proveCase_176 : decode cX8_proveCase 176 = .ok (.invokevirtual 112, 3) := by decide +kernel
theorem dX8_proveCase_179 : decode cX8_proveCase 179 = .ok (.invokevirtual 55, 3) := by decide +kernel
theorem dX8_proveCase_182 : decode cX8_proveCase 182 = .ok (.aload_n 0, 1) := by decide +kernel
theorem dX8_proveCase_183 : decode cX8_proveCase 183 = .ok (.iload_n 1, 1) := by decide +kernel
theorem dX8_proveCase_184 : decode cX8_proveCase 184 = .ok (.iconst 1, 1) := by decide +kernel
theorem dX8_proveCase_185 : decode cX8_proveCase 185 = .ok (.iadd, 1) := by decide +kernel
theorem dX8_proveCase_186 : decode cX8_proveCase 186 = .ok (.invokevirtual 116, 3) := by decide +kernel
theorem dX8_proveCase_189 : decode cX8_proveCase 189 = .ok (.ireturn, 1) := by decide +kernel
theorem dX8_normalize_0 : decode cX8_normalize 0 = .ok (.aload_n 0, 1) := by decide +kernel
theorem dX8_normalize_1 : decode cX8_normalize 1 = .ok (.getfield 38, 3) := by decide +kernel
theorem dX8_normalize_4 : decode cX8_normalize 4 = .ok (.aload_n 1, 1) := by decide +kernel
theorem dX8_normalize_5 : decode cX8_normalize 5 = .ok (.getfield 95, 3) := by decide +kernel
theorem dX8_normalize_8 : decode cX8_normalize 8 = .ok (.aload_n 2, 1) := by decide +kernel
theorem dX8_normalize_9 : decode cX8_normalize 9 = .ok (.getfield 95, 3) := by decide +kernel
theorem dX8_normalize_12 : decode cX8_normalize 12 = .ok (.iload_n 3, 1) := by decide +kernel
theorem dX8_normalize_13 : decode cX8_normalize 13 = .ok (.iload 4, 2) := by decide +kernel
theorem dX8_normalize_15 : decode cX8_normalize 15 = .ok (.iload 5, 2) := by decide +kernel
theorem dX8_normalize_17 : decode cX8_normalize 17 = .ok (.invokevirtual 119, 3) := by decide +kernel
theorem dX8_normalize_20 : decode cX8_normalize 20 = .ok (.ifCond .eq 30, 3) := by decide +kernel
theorem dX8_normalize_23 : decode cX8_normalize 23 = .ok (.aload_n 0, 1) := by decide +kernel
theorem dX8_normalize_24 : decode cX8_normalize 24 = .ok (.getfield 38, 3) := by decide +kernel
theorem dX8_normalize_27 : decode cX8_normalize 27 = .ok (.aload_n 1, 1) := by decide +kernel
theorem dX8_normalize_28 : decode cX8_normalize 28 = .ok (.getfield 102, 3) := by decide +kernel
theorem dX8_normalize_31 : decode cX8_normalize 31 = .ok (.aload_n 2, 1) := by decide +kernel
theorem dX8_normalize_32 : decode cX8_normalize 32 = .ok (.getfield 102, 3) := by decide +kernel
theorem dX8_normalize_35 : decode cX8_normalize 35 = .ok (.iload_n 3, 1) := by decide +kernel
theorem dX8_normalize_36 : decode cX8_normalize 36 = .ok (.iload 4, 2) := by decide +kernel
theorem dX8_normalize_38 : decode cX8_normalize 38 = .ok (.iload 5, 2) := by decide +kernel
theorem dX8_normalize_40 : decode cX8_normalize 40 = .ok (.invokevirtual 119, 3) := by decide +kernel
theorem dX8_normalize_43 : decode cX8_normalize 43 = .ok (.ifCond .eq 7, 3) := by decide +kernel
theorem dX8_normalize_46 : decode cX8_normalize 46 = .ok (.iconst 1, 1) := by decide +kernel
theorem dX8_normalize_47 : decode cX8_normalize 47 = .ok (.goto 4, 3) := by decide +kernel
theorem dX8_normalize_50 : decode cX8_normalize 50 = .ok (.iconst 0, 1) := by decide +kernel
theorem dX8_normalize_51 : decode cX8_normalize 51 = .ok (.ireturn, 1) := by decide +kernel
theorem dX8_ripple_0 : decode cX8_ripple 0 = .ok (.iconst 0, 1) := by decide +kernel
theorem dX8_ripple_1 : decode cX8_ripple 1 = .ok (.istore 4, 2) := by decide +kernel
theorem dX8_ripple_3 : decode cX8_ripple 3 = .ok (.iload 4, 2) := by decide +kernel
theorem dX8_ripple_5 : decode cX8_ripple 5 = .ok (.sipush 1600, 3) := by decide +kernel
theorem dX8_ripple_8 : decode cX8_ripple 8 = .ok (.if_icmp .ge 43, 3) := by decide +kernel
theorem dX8_ripple_11 : decode cX8_ripple 11 = .ok (.aload_n 0, 1) := by decide +kernel
theorem dX8_ripple_12 : decode cX8_ripple 12 = .ok (.getfield 46, 3) := by decide +kernel
theorem dX8_ripple_15 : decode cX8_ripple 15 = .ok (.aload_n 2, 1) := by decide +kernel
theorem dX8_ripple_16 : decode cX8_ripple 16 = .ok (.aload_n 1, 1) := by decide +kernel
theorem dX8_ripple_17 : decode cX8_ripple 17 = .ok (.invokevirtual 125, 3) := by decide +kernel
theorem dX8_ripple_20 : decode cX8_ripple 20 = .ok (.istore 5, 2) := by decide +kernel
theorem dX8_ripple_22 : decode cX8_ripple 22 = .ok (.iload 5, 2) := by decide +kernel
theorem dX8_ripple_24 : decode cX8_ripple 24 = .ok (.bipush (-9), 2) := by decide +kernel
theorem dX8_ripple_26 : decode cX8_ripple 26 = .ok (.if_icmp .ne 4, 3) := by decide +kernel
theorem dX8_ripple_29 : decode cX8_ripple 29 = .ok (.return_, 1) := by decide +kernel
theorem dX8_ripple_30 : decode cX8_ripple 30 = .ok (.aload_n 0, 1) := by decide +kernel
theorem dX8_ripple_31 : decode cX8_ripple 31 = .ok (.getfield 50, 3) := by decide +kernel
theorem dX8_ripple_34 : decode cX8_ripple 34 = .ok (.iconst 4, 1) := by decide +kernel
theorem dX8_ripple_35 : decode cX8_ripple 35 = .ok (.iload 5, 2) := by decide +kernel
theorem dX8_ripple_37 : decode cX8_ripple 37 = .ok (.bipush 10, 2) := by decide +kernel
theorem dX8_ripple_39 : decode cX8_ripple 39 = .ok (.iload_n 3, 1) := by decide +kernel
theorem dX8_ripple_40 : decode cX8_ripple 40 = .ok (.imul, 1) := by decide +kernel
theorem dX8_ripple_41 : decode cX8_ripple 41 = .ok (.iadd, 1) := by decide +kernel
theorem dX8_ripple_42 : decode cX8_ripple 42 = .ok (.invokevirtual 55, 3) := by decide +kernel
theorem dX8_ripple_45 : decode cX8_ripple 45 = .ok (.iinc 4 1, 3) := by decide +kernel
theorem dX8_ripple_48 : decode cX8_ripple 48 = .ok (.goto (-45), 3) := by decide +kernel
theorem dX8_ripple_51 : decode cX8_ripple 51 = .ok (.return_, 1) := by decide +kernel
theorem dX8_useClaim_0 : decode cX8_useClaim 0 = .ok (.iconst 0, 1) := by decide +kernel
theorem dX8_useClaim_1 : decode cX8_useClaim 1 = .ok (.istore 4, 2) := by decide +kernel
theorem dX8_useClaim_3 : decode cX8_useClaim 3 = .ok (.iload 4, 2) := by decide +kernel
theorem dX8_useClaim_5 : decode cX8_useClaim 5 = .ok (.iconst 1, 1) := by decide +kernel
theorem dX8_useClaim_6 : decode cX8_useClaim 6 = .ok (.if_icmp .gt 94, 3) := by decide +kernel
theorem dX8_useClaim_9 : decode cX8_useClaim 9 = .ok (.aload_n 2, 1) := by decide +kernel
theorem dX8_useClaim_10 : decode cX8_useClaim 10 = .ok (.iload 4, 2) := by decide +kernel
theorem dX8_useClaim_12 : decode cX8_useClaim 12 = .ok (.invokevirtual 130, 3) := by decide +kernel
theorem dX8_useClaim_15 : decode cX8_useClaim 15 = .ok (.astore 5, 2) := by decide +kernel
theorem dX8_useClaim_17 : decode cX8_useClaim 17 = .ok (.aload_n 0, 1) := by decide +kernel
theorem dX8_useClaim_18 : decode cX8_useClaim 18 = .ok (.getfield 42, 3) := by decide +kernel
theorem dX8_useClaim_21 : decode cX8_useClaim 21 = .ok (.aload_n 1, 1) := by decide +kernel
theorem dX8_useClaim_22 : decode cX8_useClaim 22 = .ok (.iload 4, 2) := by decide +kernel
theorem dX8_useClaim_24 : decode cX8_useClaim 24 = .ok (.invokevirtual 130, 3) := by decide +kernel
theorem dX8_useClaim_27 : decode cX8_useClaim 27 = .ok (.aload 5, 2) := by decide +kernel
theorem dX8_useClaim_29 : decode cX8_useClaim 29 = .ok (.iload_n 3, 1) := by decide +kernel
theorem dX8_useClaim_30 : decode cX8_useClaim 30 = .ok (.invokevirtual 134, 3) := by decide +kernel
theorem dX8_useClaim_33 : decode cX8_useClaim 33 = .ok (.istore 6, 2) := by decide +kernel
theorem dX8_useClaim_35 : decode cX8_useClaim 35 = .ok (.iload 6, 2) := by decide +kernel
theorem dX8_useClaim_37 : decode cX8_useClaim 37 = .ok (.bipush (-9), 2) := by decide +kernel
theorem dX8_useClaim_39 : decode cX8_useClaim 39 = .ok (.if_icmp .ne 6, 3) := by decide +kernel
theorem dX8_useClaim_42 : decode cX8_useClaim 42 = .ok (.goto 52, 3) := by decide +kernel
theorem dX8_useClaim_45 : decode cX8_useClaim 45 = .ok (.aload_n 0, 1) := by decide +kernel
theorem dX8_useClaim_46 : decode cX8_useClaim 46 = .ok (.getfield 42, 3) := by decide +kernel
theorem dX8_useClaim_49 : decode cX8_useClaim 49 = .ok (.aload_n 1, 1) := by decide +kernel
theorem dX8_useClaim_50 : decode cX8_useClaim 50 = .ok (.iconst 1, 1) := by decide +kernel
theorem dX8_useClaim_51 : decode cX8_useClaim 51 = .ok (.iload 4, 2) := by decide +kernel
theorem dX8_useClaim_53 : decode cX8_useClaim 53 = .ok (.isub, 1) := by decide +kernel
theorem dX8_useClaim_54 : decode cX8_useClaim 54 = .ok (.invokevirtual 130, 3) := by decide +kernel
theorem dX8_useClaim_57 : decode cX8_useClaim 57 = .ok (.aload 5, 2) := by decide +kernel
theorem dX8_useClaim_59 : decode cX8_useClaim 59 = .ok (.iload 6, 2) := by decide +kernel
theorem dX8_useClaim_61 : decode cX8_useClaim 61 = .ok (.aload_n 0, 1) := by decide +kernel
theorem dX8_useClaim_62 : decode cX8_useClaim 62 = .ok (.getfield 26, 3) := by decide +kernel
theorem dX8_useClaim_65 : decode cX8_useClaim 65 = .ok (.invokevirtual 140, 3) := by decide +kernel
theorem dX8_useClaim_68 : decode cX8_useClaim 68 = .ok (.ifCond .ne 5, 3) := by decide +kernel
theorem dX8_useClaim_71 : decode cX8_useClaim 71 = .ok (.iconst 0, 1) := by decide +kernel
theorem dX8_useClaim_72 : decode cX8_useClaim 72 = .ok (.ireturn, 1) := by decide +kernel
theorem dX8_useClaim_73 : decode cX8_useClaim 73 = .ok (.aload 5, 2) := by decide +kernel
theorem dX8_useClaim_75 : decode cX8_useClaim 75 = .ok (.aload_n 0, 1) := by decide +kernel
theorem dX8_useClaim_76 : decode cX8_useClaim 76 = .ok (.getfield 26, 3) := by decide +kernel
theorem dX8_useClaim_79 : decode cX8_useClaim 79 = .ok (.invokevirtual 144, 3) := by decide +kernel
theorem dX8_useClaim_82 : decode cX8_useClaim 82 = .ok (.aload_n 0, 1) := by decide +kernel
theorem dX8_useClaim_83 : decode cX8_useClaim 83 = .ok (.getfield 50, 3) := by decide +kernel
theorem dX8_useClaim_86 : decode cX8_useClaim 86 = .ok (.iconst 5, 1) := by decide +kernel
theorem dX8_useClaim_87 : decode cX8_useClaim 87 = .ok (.iload 4, 2) := by decide +kernel
theorem dX8_useClaim_89 : decode cX8_useClaim 89 = .ok (.invokevirtual 55, 3) := by decide +kernel
theorem dX8_useClaim_92 : decode cX8_useClaim 92 = .ok (.iconst 1, 1) := by decide +kernel
theorem dX8_useClaim_93 : decode cX8_useClaim 93 = .ok (.ireturn, 1) := by decide +kernel
theorem dX8_useClaim_94 : decode cX8_useClaim 94 = .ok (.iinc 4 1, 3) := by decide +kernel
theorem dX8_useClaim_97 : decode cX8_useClaim 97 = .ok (.goto (-94), 3) := by decide +kernel
theorem dX8_useClaim_100 : decode cX8_useClaim 100 = .ok (.iconst 1, 1) := by decide +kernel
theorem dX8_useClaim_101 : decode cX8_useClaim 101 = .ok (.ireturn, 1) := by decide +kernel
theorem dX8_guess_0 : decode cX8_guess 0 = .ok (.aload_n 1, 1) := by decide +kernel
theorem dX8_guess_1 : decode cX8_guess 1 = .ok (.aload_n 2, 1) := by decide +kernel
theorem dX8_guess_2 : decode cX8_guess 2 = .ok (.aload_n 0, 1) := by decide +kernel
theorem dX8_guess_3 : decode cX8_guess 3 = .ok (.getfield 30, 3) := by decide +kernel
theorem dX8_guess_6 : decode cX8_guess 6 = .ok (.invokevirtual 148, 3) := by decide +kernel
theorem dX8_guess_9 : decode cX8_guess 9 = .ok (.istore_n 3, 1) := by decide +kernel
theorem dX8_guess_10 : decode cX8_guess 10 = .ok (.iload_n 3, 1) := by decide +kernel
theorem dX8_guess_11 : decode cX8_guess 11 = .ok (.bipush (-9), 2) := by decide +kernel
theorem dX8_guess_13 : decode cX8_guess 13 = .ok (.if_icmp .eq 22, 3) := by decide +kernel
theorem dX8_guess_16 : decode cX8_guess 16 = .ok (.aload_n 0, 1) := by decide +kernel
theorem dX8_guess_17 : decode cX8_guess 17 = .ok (.getfield 34, 3) := by decide +kernel
theorem dX8_guess_20 : decode cX8_guess 20 = .ok (.aload_n 2, 1) := by decide +kernel
theorem dX8_guess_21 : decode cX8_guess 21 = .ok (.invokevirtual 61, 3) := by decide +kernel
theorem dX8_guess_24 : decode cX8_guess 24 = .ok (.ifCond .eq 11, 3) := by decide +kernel
theorem dX8_guess_27 : decode cX8_guess 27 = .ok (.aload_n 2, 1) := by decide +kernel
theorem dX8_guess_28 : decode cX8_guess 28 = .ok (.aload_n 1, 1) := by decide +kernel
theorem dX8_guess_29 : decode cX8_guess 29 = .ok (.invokevirtual 152, 3) := by decide +kernel
theorem dX8_guess_32 : decode cX8_guess 32 = .ok (.bipush (-9), 2) := by decide +kernel
theorem dX8_guess_34 : decode cX8_guess 34 = .ok (.ireturn, 1) := by decide +kernel
theorem dX8_guess_35 : decode cX8_guess 35 = .ok (.iload_n 3, 1) := by decide +kernel
theorem dX8_guess_36 : decode cX8_guess 36 = .ok (.ireturn, 1) := by decide +kernel
theorem dX8_fail_0 : decode cX8_fail 0 = .ok (.aload_n 0, 1) := by decide +kernel
theorem dX8_fail_1 : decode cX8_fail 1 = .ok (.getfield 50, 3) := by decide +kernel
theorem dX8_fail_4 : decode cX8_fail 4 = .ok (.bipush 8, 2) := by decide +kernel
theorem dX8_fail_6 : decode cX8_fail 6 = .ok (.iload_n 2, 1) := by decide +kernel
theorem dX8_fail_7 : decode cX8_fail 7 = .ok (.invokevirtual 55, 3) := by decide +kernel
theorem dX8_fail_10 : decode cX8_fail 10 = .ok (.aload_n 0, 1) := by decide +kernel
theorem dX8_fail_11 : decode cX8_fail 11 = .ok (.getfield 50, 3) := by decide +kernel
theorem dX8_fail_14 : decode cX8_fail 14 = .ok (.iload_n 1, 1) := by decide +kernel
theorem dX8_fail_15 : decode cX8_fail 15 = .ok (.iload_n 2, 1) := by decide +kernel
theorem dX8_fail_16 : decode cX8_fail 16 = .ok (.invokevirtual 109, 3) := by decide +kernel
theorem dX8_fail_19 : decode cX8_fail 19 = .ok (.iload_n 2, 1) := by decide +kernel
theorem dX8_fail_20 : decode cX8_fail 20 = .ok (.ireturn, 1) := by decide +kernel
theorem dX8_succeed_0 : decode cX8_succeed 0 = .ok (.aload_n 0, 1) := by decide +kernel
theorem dX8_succeed_1 : decode cX8_succeed 1 = .ok (.getfield 50, 3) := by decide +kernel
theorem dX8_succeed_4 : decode cX8_succeed 4 = .ok (.bipush 7, 2) := by decide +kernel
theorem dX8_succeed_6 : decode cX8_succeed 6 = .ok (.iload_n 1, 1) := by decide +kernel
theorem dX8_succeed_7 : decode cX8_succeed 7 = .ok (.invokevirtual 55, 3) := by decide +kernel
theorem dX8_succeed_10 : decode cX8_succeed 10 = .ok (.aload_n 0, 1) := by decide +kernel
theorem dX8_succeed_11 : decode cX8_succeed 11 = .ok (.getfield 46, 3) := by decide +kernel
theorem dX8_succeed_14 : decode cX8_succeed 14 = .ok (.aload_n 0, 1) := by decide +kernel
theorem dX8_succeed_15 : decode cX8_succeed 15 = .ok (.getfield 11, 3) := by decide +kernel
theorem dX8_succeed_18 : decode cX8_succeed 18 = .ok (.iload_n 1, 1) := by decide +kernel
theorem dX8_succeed_19 : decode cX8_succeed 19 = .ok (.aaload, 1) := by decide +kernel
theorem dX8_succeed_20 : decode cX8_succeed 20 = .ok (.invokevirtual 155, 3) := by decide +kernel
theorem dX8_succeed_23 : decode cX8_succeed 23 = .ok (.iconst 0, 1) := by decide +kernel
theorem dX8_succeed_24 : decode cX8_succeed 24 = .ok (.ireturn, 1) := by decide +kernel
theorem dX9_init_0 : decode cX9_init 0 = .ok (.aload_n 0, 1) := by decide +kernel
theorem dX9_init_1 : decode cX9_init 1 = .ok (.invokespecial 3, 3) := by decide +kernel
theorem dX9_init_4 : decode cX9_init 4 = .ok (.aload_n 0, 1) := by decide +kernel
theorem dX9_init_5 : decode cX9_init 5 = .ok (.bipush 48, 2) := by decide +kernel
theorem dX9_init_7 : decode cX9_init 7 = .ok (.newarray .int, 2) := by decide +kernel
theorem dX9_init_9 : decode cX9_init 9 = .ok (.putfield 9, 3) := by decide +kernel
theorem dX9_init_12 : decode cX9_init 12 = .ok (.aload_n 0, 1) := by decide +kernel
theorem dX9_init_13 : decode cX9_init 13 = .ok (.iconst 3, 1) := by decide +kernel
theorem dX9_init_14 : decode cX9_init 14 = .ok (.anewarray 15, 3) := by decide +kernel
theorem dX9_init_17 : decode cX9_init 17 = .ok (.putfield 17, 3) := by decide +kernel
theorem dX9_init_20 : decode cX9_init 20 = .ok (.aload_n 0, 1) := by decide +kernel
theorem dX9_init_21 : decode cX9_init 21 = .ok (.aload_n 1, 1) := by decide +kernel
theorem dX9_init_22 : decode cX9_init 22 = .ok (.putfield 21, 3) := by decide +kernel
theorem dX9_init_25 : decode cX9_init 25 = .ok (.iconst 0, 1) := by decide +kernel
theorem dX9_init_26 : decode cX9_init 26 = .ok (.istore_n 2, 1) := by decide +kernel
theorem dX9_init_27 : decode cX9_init 27 = .ok (.iload_n 2, 1) := by decide +kernel
theorem dX9_init_28 : decode cX9_init 28 = .ok (.iconst 3, 1) := by decide +kernel
theorem dX9_init_29 : decode cX9_init 29 = .ok (.if_icmp .ge 22, 3) := by decide +kernel
theorem dX9_init_32 : decode cX9_init 32 = .ok (.aload_n 0, 1) := by decide +kernel
theorem dX9_init_33 : decode cX9_init 33 = .ok (.getfield 17, 3) := by decide +kernel
theorem dX9_init_36 : decode cX9_init 36 = .ok (.iload_n 2, 1) := by decide +kernel
theorem dX9_init_37 : decode cX9_init 37 = .ok (.new 15, 3) := by decide +kernel
theorem dX9_init_40 : decode cX9_init 40 = .ok (.dup, 1) := by decide +kernel
theorem dX9_init_41 : decode cX9_init 41 = .ok (.invokespecial 25, 3) := by decide +kernel
theorem dX9_init_44 : decode cX9_init 44 = .ok (.aastore, 1) := by decide +kernel
theorem dX9_init_45 : decode cX9_init 45 = .ok (.iinc 2 1, 3) := by decide +kernel
theorem dX9_init_48 : decode cX9_init 48 = .ok (.goto (-21), 3) := by decide +kernel
theorem dX9_init_51 : decode cX9_init 51 = .ok (.return_, 1) := by decide +kernel
theorem dX9_put_0 : decode cX9_put 0 = .ok (.aload_n 0, 1) := by decide +kernel
theorem dX9_put_1 : decode cX9_put 1 = .ok (.getfield 26, 3) := by decide +kernel
theorem dX9_put_4 : decode cX9_put 4 = .ok (.ifCond .lt 32, 3) := by decide +kernel
theorem dX9_put_7 : decode cX9_put 7 = .ok (.aload_n 0, 1) := by decide +kernel
theorem dX9_put_8 : decode cX9_put 8 = .ok (.getfield 26, 3) := by decide +kernel
theorem dX9_put_11 : decode cX9_put 11 = .ok (.bipush 48, 2) := by decide +kernel
theorem dX9_put_13 : decode cX9_put 13 = .ok (.if_icmp .ge 23, 3) := by decide +kernel
theorem dX9_put_16 : decode cX9_put 16 = .ok (.aload_n 0, 1) := by decide +kernel
theorem dX9_put_17 : decode cX9_put 17 = .ok (.getfield 9, 3) := by decide +kernel
theorem dX9_put_20 : decode cX9_put 20 = .ok (.aload_n 0, 1) := by decide +kernel
theorem dX9_put_21 : decode cX9_put 21 = .ok (.getfield 26, 3) := by decide +kernel
theorem dX9_put_24 : decode cX9_put 24 = .ok (.iload_n 1, 1) := by decide +kernel
theorem dX9_put_25 : decode cX9_put 25 = .ok (.iastore, 1) := by decide +kernel
theorem dX9_put_26 : decode cX9_put 26 = .ok (.aload_n 0, 1) := by decide +kernel
theorem dX9_put_27 : decode cX9_put 27 = .ok (.dup, 1) := by decide +kernel
theorem dX9_put_28 : decode cX9_put 28 = .ok (.getfield 26, 3) := by decide +kernel
theorem dX9_put_31 : decode cX9_put 31 = .ok (.iconst 1, 1) := by decide +kernel
theorem dX9_put_32 : decode cX9_put 32 = .ok (.iadd, 1) := by decide +kernel
theorem dX9_put_33 : decode cX9_put 33 = .ok (.putfield 26, 3) := by decide +kernel
theorem dX9_put_36 : decode cX9_put 36 = .ok (.return_, 1) := by decide +kernel
theorem dX9_readFunction_0 : decode cX9_readFunction 0 = .ok (.aload_n 0, 1) := by decide +kernel
theorem dX9_readFunction_1 : decode cX9_readFunction 1 = .ok (.iconst 0, 1) := by decide +kernel
theorem dX9_readFunction_2 : decode cX9_readFunction 2 = .ok (.putfield 30, 3) := by decide +kernel
theorem dX9_readFunction_5 : decode cX9_readFunction 5 = .ok (.aload_n 0, 1) := by decide +kernel
theorem dX9_readFunction_6 : decode cX9_readFunction 6 = .ok (.iload_n 1, 1) := by decide +kernel
theorem dX9_readFunction_7 : decode cX9_readFunction 7 = .ok (.putfield 33, 3) := by decide +kernel
theorem dX9_readFunction_10 : decode cX9_readFunction 10 = .ok (.aload_n 0, 1) := by decide +kernel
theorem dX9_readFunction_11 : decode cX9_readFunction 11 = .ok (.iload_n 1, 1) := by decide +kernel
theorem dX9_readFunction_12 : decode cX9_readFunction 12 = .ok (.iconst 2, 1) := by decide +kernel
theorem dX9_readFunction_13 : decode cX9_readFunction 13 = .ok (.if_icmp .ne 7, 3) := by decide +kernel
theorem dX9_readFunction_16 : decode cX9_readFunction 16 = .ok (.iconst 1, 1) := by decide +kernel
theorem dX9_readFunction_17 : decode cX9_readFunction 17 = .ok (.goto 4, 3) := by decide +kernel
theorem dX9_readFunction_20 : decode cX9_readFunction 20 = .ok (.iconst 0, 1) := by decide +kernel
theorem dX9_readFunction_21 : decode cX9_readFunction 21 = .ok (.putfield 36, 3) := by decide +kernel
theorem dX9_readFunction_24 : decode cX9_readFunction 24 = .ok (.aload_n 0, 1) := by decide +kernel
theorem dX9_readFunction_25 : decode cX9_readFunction 25 = .ok (.iconst 0, 1) := by decide +kernel
theorem dX9_readFunction_26 : decode cX9_readFunction 26 = .ok (.putfield 40, 3) := by decide +kernel
theorem dX9_readFunction_29 : decode cX9_readFunction 29 = .ok (.iconst 0, 1) := by decide +kernel
theorem dX9_readFunction_30 : decode cX9_readFunction 30 = .ok (.istore_n 3, 1) := by decide +kernel
theorem dX9_readFunction_31 : decode cX9_readFunction 31 = .ok (.iload_n 3, 1) := by decide +kernel
theorem dX9_readFunction_32 : decode cX9_readFunction 32 = .ok (.iload_n 2, 1) := by decide +kernel
theorem dX9_readFunction_33 : decode cX9_readFunction 33 = .ok (.if_icmp .gt 74, 3) := by decide +kernel
theorem dX9_readFunction_36 : decode cX9_readFunction 36 = .ok (.iload_n 3, 1) := by decide +kernel
theorem dX9_readFunction_37 : decode cX9_readFunction 37 = .ok (.iconst 3, 1) := by decide +kernel
theorem dX9_readFunction_38 : decode cX9_readFunction 38 = .ok (.if_icmp .ge 69, 3) := by decide +kernel
theorem dX9_readFunction_41 : decode cX9_readFunction 41 = .ok (.aload_n 0, 1) := by decide +kernel
theorem dX9_readFunction_42 : decode cX9_readFunction 42 = .ok (.iload_n 3, 1) := by decide +kernel
theorem dX9_readFunction_43 : decode cX9_readFunction 43 = .ok (.iload_n 2, 1) := by decide +kernel
theorem dX9_readFunction_44 : decode cX9_readFunction 44 = .ok (.if_icmp .ne 7, 3) := by decide +kernel
theorem dX9_readFunction_47 : decode cX9_readFunction 47 = .ok (.iconst 1, 1) := by decide +kernel
theorem dX9_readFunction_48 : decode cX9_readFunction 48 = .ok (.goto 4, 3) := by decide +kernel
theorem dX9_readFunction_51 : decode cX9_readFunction 51 = .ok (.iconst 0, 1) := by decide +kernel
theorem dX9_readFunction_52 : decode cX9_readFunction 52 = .ok (.putfield 43, 3) := by decide +kernel
theorem dX9_readFunction_55 : decode cX9_readFunction 55 = .ok (.aload_n 0, 1) := by decide +kernel
theorem dX9_readFunction_56 : decode cX9_readFunction 56 = .ok (.iload_n 3, 1) := by decide +kernel
theorem dX9_readFunction_57 : decode cX9_readFunction 57 = .ok (.iload_n 2, 1) := by decide +kernel
theorem dX9_readFunction_58 : decode cX9_readFunction 58 = .ok (.if_icmp .ne 7, 3) := by decide +kernel
theorem dX9_readFunction_61 : decode cX9_readFunction 61 = .ok (.iconst 1, 1) := by decide +kernel
theorem dX9_readFunction_62 : decode cX9_readFunction 62 = .ok (.goto 4, 3) := by decide +kernel
theorem dX9_readFunction_65 : decode cX9_readFunction 65 = .ok (.iconst 0, 1) := by decide +kernel
theorem dX9_readFunction_66 : decode cX9_readFunction 66 = .ok (.putfield 46, 3) := by decide +kernel
theorem dX9_readFunction_69 : decode cX9_readFunction 69 = .ok (.iload_n 3, 1) := by decide +kernel
theorem dX9_readFunction_70 : decode cX9_readFunction 70 = .ok (.ifCond .le 14, 3) := by decide +kernel
theorem dX9_readFunction_73 : decode cX9_readFunction 73 = .ok (.aload_n 0, 1) := by decide +kernel
theorem dX9_readFunction_74 : decode cX9_readFunction 74 = .ok (.bipush 59, 2) := by decide +kernel
theorem dX9_readFunction_76 : decode cX9_readFunction 76 = .ok (.invokevirtual 49, 3) := by decide +kernel
theorem dX9_readFunction_79 : decode cX9_readFunction 79 = .ok (.ifCond .ne 5, 3) := by decide +kernel
theorem dX9_readFunction_82 : decode cX9_readFunction 82 = .ok (.iconst 0, 1) := by decide +kernel
theorem dX9_readFunction_83 : decode cX9_readFunction 83 = .ok (.ireturn, 1) := by decide +kernel
theorem dX9_readFunction_84 : decode cX9_readFunction 84 = .ok (.aload_n 0, 1) := by decide +kernel
theorem dX9_readFunction_85 : decode cX9_readFunction 85 = .ok (.aload_n 0, 1) := by decide +kernel
theorem dX9_readFunction_86 : decode cX9_readFunction 86 = .ok (.getfield 17, 3) := by decide +kernel
theorem dX9_readFunction_89 : decode cX9_readFunction 89 = .ok (.iload_n 3, 1) := by decide +kernel
theorem dX9_readFunction_90 : decode cX9_readFunction 90 = .ok (.aaload, 1) := by decide +kernel
theorem dX9_readFunction_91 : decode cX9_readFunction 91 = .ok (.bipush 10, 2) := by decide +kernel
theorem dX9_readFunction_93 : decode cX9_readFunction 93 = .ok (.invokevirtual 53, 3) := by decide +kernel
theorem dX9_readFunction_96 : decode cX9_readFunction 96 = .ok (.ifCond .ne 5, 3) := by decide +kernel
theorem dX9_readFunction_99 : decode cX9_readFunction 99 = .ok (.iconst 0, 1) := by decide +kernel
theorem dX9_readFunction_100 : decode cX9_readFunction 100 = .ok (.ireturn, 1) := by decide +kernel
theorem dX9_readFunction_101 : decode cX9_readFunction 101 = .ok (.iinc 3 1, 3) := by decide +kernel
theorem dX9_readFunction_104 : decode cX9_readFunction 104 = .ok (.goto (-73), 3) := by decide +kernel
theorem dX9_readFunction_107 : decode cX9_readFunction 107 = .ok (.aload_n 0, 1) := by decide +kernel
theorem dX9_readFunction_108 : decode cX9_readFunction 108 = .ok (.getfield 30, 3) := by decide +kernel
theorem dX9_readFunction_111 : decode cX9_readFunction 111 = .ok (.aload_n 0, 1) := by decide +kernel
theorem dX9_readFunction_112 : decode cX9_readFunction 112 = .ok (.getfield 26, 3) := by decide +kernel
theorem dX9_readFunction_115 : decode cX9_readFunction 115 = .ok (.if_icmp .ne 7, 3) := by decide +kernel
theorem dX9_readFunction_118 : decode cX9_readFunction 118 = .ok (.iconst 1, 1) := by decide +kernel
theorem dX9_readFunction_119 : decode cX9_readFunction 119 = .ok (.goto 4, 3) := by decide +kernel
theorem dX9_readFunction_122 : decode cX9_readFunction 122 = .ok (.iconst 0, 1) := by decide +kernel
theorem dX9_readFunction_123 : decode cX9_readFunction 123 = .ok (.ireturn, 1) := by decide +kernel
theorem dX9_readClaim_0 : decode cX9_readClaim 0 = .ok (.aload_n 0, 1) := by decide +kernel
theorem dX9_readClaim_1 : decode cX9_readClaim 1 = .ok (.iconst 0, 1) := by decide +kernel
theorem dX9_readClaim_2 : decode cX9_readClaim 2 = .ok (.putfield 30, 3) := by decide +kernel
theorem dX9_readClaim_5 : decode cX9_readClaim 5 = .ok (.aload_n 0, 1) := by decide +kernel
theorem dX9_readClaim_6 : decode cX9_readClaim 6 = .ok (.iconst 0, 1) := by decide +kernel
theorem dX9_readClaim_7 : decode cX9_readClaim 7 = .ok (.putfield 43, 3) := by decide +kernel
theorem dX9_readClaim_10 : decode cX9_readClaim 10 = .ok (.aload_n 0, 1) := by decide +kernel
theorem dX9_readClaim_11 : decode cX9_readClaim 11 = .ok (.iconst 1, 1) := by decide +kernel
theorem dX9_readClaim_12 : decode cX9_readClaim 12 = .ok (.putfield 46, 3) := by decide +kernel
theorem dX9_readClaim_15 : decode cX9_readClaim 15 = .ok (.aload_n 0, 1) := by decide +kernel
theorem dX9_readClaim_16 : decode cX9_readClaim 16 = .ok (.iconst 1, 1) := by decide +kernel
theorem dX9_readClaim_17 : decode cX9_readClaim 17 = .ok (.putfield 36, 3) := by decide +kernel
theorem dX9_readClaim_20 : decode cX9_readClaim 20 = .ok (.aload_n 0, 1) := by decide +kernel
theorem dX9_readClaim_21 : decode cX9_readClaim 21 = .ok (.iconst 1, 1) := by decide +kernel
theorem dX9_readClaim_22 : decode cX9_readClaim 22 = .ok (.putfield 40, 3) := by decide +kernel
theorem dX9_readClaim_25 : decode cX9_readClaim 25 = .ok (.aload_n 0, 1) := by decide +kernel
theorem dX9_readClaim_26 : decode cX9_readClaim 26 = .ok (.aload_n 0, 1) := by decide +kernel
theorem dX9_readClaim_27 : decode cX9_readClaim 27 = .ok (.getfield 17, 3) := by decide +kernel
theorem dX9_readClaim_30 : decode cX9_readClaim 30 = .ok (.iconst 0, 1) := by decide +kernel
theorem dX9_readClaim_31 : decode cX9_readClaim 31 = .ok (.aaload, 1) := by decide +kernel
theorem dX9_readClaim_32 : decode cX9_readClaim 32 = .ok (.bipush 20, 2) := by decide +kernel
theorem dX9_readClaim_34 : decode cX9_readClaim 34 = .ok (.invokevirtual 53, 3) := by decide +kernel
theorem dX9_readClaim_37 : decode cX9_readClaim 37 = .ok (.ifCond .eq 31, 3) := by decide +kernel
theorem dX9_readClaim_40 : decode cX9_readClaim 40 = .ok (.aload_n 0, 1) := by decide +kernel
theorem dX9_readClaim_41 : decode cX9_readClaim 41 = .ok (.bipush 61, 2) := by decide +kernel
theorem dX9_readClaim_43 : decode cX9_readClaim 43 = .ok (.invokevirtual 49, 3) := by decide +kernel
theorem dX9_readClaim_46 : decode cX9_readClaim 46 = .ok (.ifCond .eq 22, 3) := by decide +kernel
theorem dX9_readClaim_49 : decode cX9_readClaim 49 = .ok (.aload_n 0, 1) := by decide +kernel
theorem dX9_readClaim_50 : decode cX9_readClaim 50 = .ok (.aload_n 0, 1) := by decide +kernel
theorem dX9_readClaim_51 : decode cX9_readClaim 51 = .ok (.getfield 17, 3) := by decide +kernel
theorem dX9_readClaim_54 : decode cX9_readClaim 54 = .ok (.iconst 1, 1) := by decide +kernel
theorem dX9_readClaim_55 : decode cX9_readClaim 55 = .ok (.aaload, 1) := by decide +kernel
theorem dX9_readClaim_56 : decode cX9_readClaim 56 = .ok (.bipush 20, 2) := by decide +kernel
theorem dX9_readClaim_58 : decode cX9_readClaim 58 = .ok (.invokevirtual 53, 3) := by decide +kernel
theorem dX9_readClaim_61 : decode cX9_readClaim 61 = .ok (.ifCond .eq 7, 3) := by decide +kernel
theorem dX9_readClaim_64 : decode cX9_readClaim 64 = .ok (.iconst 1, 1) := by decide +kernel
theorem dX9_readClaim_65 : decode cX9_readClaim 65 = .ok (.goto 4, 3) := by decide +kernel
theorem dX9_readClaim_68 : decode cX9_readClaim 68 = .ok (.iconst 0, 1) := by decide +kernel
theorem dX9_readClaim_69 : decode cX9_readClaim 69 = .ok (.istore_n 1, 1) := by decide +kernel
theorem dX9_readClaim_70 : decode cX9_readClaim 70 = .ok (.iload_n 1, 1) := by decide +kernel
theorem dX9_readClaim_71 : decode cX9_readClaim 71 = .ok (.ifCond .eq 14, 3) := by decide +kernel
theorem dX9_readClaim_74 : decode cX9_readClaim 74 = .ok (.aload_n 0, 1) := by decide +kernel
theorem dX9_readClaim_75 : decode cX9_readClaim 75 = .ok (.getfield 30, 3) := by decide +kernel
theorem dX9_readClaim_78 : decode cX9_readClaim 78 = .ok (.aload_n 0, 1) := by decide +kernel
theorem dX9_readClaim_79 : decode cX9_readClaim 79 = .ok (.getfield 26, 3) := by decide +kernel
theorem dX9_readClaim_82 : decode cX9_readClaim 82 = .ok (.if_icmp .eq 5, 3) := by decide +kernel
theorem dX9_readClaim_85 : decode cX9_readClaim 85 = .ok (.iconst 0, 1) := by decide +kernel
theorem dX9_readClaim_86 : decode cX9_readClaim 86 = .ok (.ireturn, 1) := by decide +kernel
theorem dX9_readClaim_87 : decode cX9_readClaim 87 = .ok (.aload_n 0, 1) := by decide +kernel
theorem dX9_readClaim_88 : decode cX9_readClaim 88 = .ok (.getfield 17, 3) := by decide +kernel
theorem dX9_readClaim_91 : decode cX9_readClaim 91 = .ok (.iconst 0, 1) := by decide +kernel
theorem dX9_readClaim_92 : decode cX9_readClaim 92 = .ok (.aaload, 1) := by decide +kernel
theorem dX9_readClaim_93 : decode cX9_readClaim 93 = .ok (.aload_n 0, 1) := by decide +kernel
theorem dX9_readClaim_94 : decode cX9_readClaim 94 = .ok (.getfield 21, 3) := by decide +kernel
theorem dX9_readClaim_97 : decode cX9_readClaim 97 = .ok (.getfield 57, 3) := by decide +kernel
theorem dX9_readClaim_100 : decode cX9_readClaim 100 = .ok (.invokevirtual 62, 3) := by decide +kernel
theorem dX9_readClaim_103 : decode cX9_readClaim 103 = .ok (.aload_n 0, 1) := by decide +kernel
theorem dX9_readClaim_104 : decode cX9_readClaim 104 = .ok (.getfield 17, 3) := by decide +kernel
theorem dX9_readClaim_107 : decode cX9_readClaim 107 = .ok (.iconst 1, 1) := by decide +kernel
theorem dX9_readClaim_108 : decode cX9_readClaim 108 = .ok (.aaload, 1) := by decide +kernel
theorem dX9_readClaim_109 : decode cX9_readClaim 109 = .ok (.aload_n 0, 1) := by decide +kernel
theorem dX9_readClaim_110 : decode cX9_readClaim 110 = .ok (.getfield 21, 3) := by decide +kernel
theorem dX9_readClaim_113 : decode cX9_readClaim 113 = .ok (.getfield 57, 3) := by decide +kernel
theorem dX9_readClaim_116 : decode cX9_readClaim 116 = .ok (.invokevirtual 62, 3) := by decide +kernel
theorem dX9_readClaim_119 : decode cX9_readClaim 119 = .ok (.iconst 1, 1) := by decide +kernel
theorem dX9_readClaim_120 : decode cX9_readClaim 120 = .ok (.ireturn, 1) := by decide +kernel
theorem dX9_pass_0 : decode cX9_pass 0 = .ok (.aload_n 0, 1) := by decide +kernel
theorem dX9_pass_1 : decode cX9_pass 1 = .ok (.getfield 30, 3) := by decide +kernel
theorem dX9_pass_4 : decode cX9_pass 4 = .ok (.ifCond .lt 27, 3) := by decide +kernel
theorem dX9_pass_7 : decode cX9_pass 7 = .ok (.aload_n 0, 1) := by decide +kernel
theorem dX9_pass_8 : decode cX9_pass 8 = .ok (.getfield 30, 3) := by decide +kernel
theorem dX9_pass_11 : decode cX9_pass 11 = .ok (.aload_n 0, 1) := by decide +kernel
theorem dX9_pass_12 : decode cX9_pass 12 = .ok (.getfield 26, 3) := by decide +kernel
theorem dX9_pass_15 : decode cX9_pass 15 = .ok (.if_icmp .ge 16, 3) := by decide +kernel
theorem dX9_pass_18 : decode cX9_pass 18 = .ok (.aload_n 0, 1) := by decide +kernel
theorem dX9_pass_19 : decode cX9_pass 19 = .ok (.getfield 9, 3) := by decide +kernel
theorem dX9_pass_22 : decode cX9_pass 22 = .ok (.aload_n 0, 1) := by decide +kernel
theorem dX9_pass_23 : decode cX9_pass 23 = .ok (.getfield 30, 3) := by decide +kernel
theorem dX9_pass_26 : decode cX9_pass 26 = .ok (.iaload, 1) := by decide +kernel
theorem dX9_pass_27 : decode cX9_pass 27 = .ok (.iload_n 1, 1) := by decide +kernel
theorem dX9_pass_28 : decode cX9_pass 28 = .ok (.if_icmp .eq 5, 3) := by decide +kernel
theorem dX9_pass_31 : decode cX9_pass 31 = .ok (.iconst 0, 1) := by decide +kernel
theorem dX9_pass_32 : decode cX9_pass 32 = .ok (.ireturn, 1) := by decide +kernel
theorem dX9_pass_33 : decode cX9_pass 33 = .ok (.aload_n 0, 1) := by decide +kernel
theorem dX9_pass_34 : decode cX9_pass 34 = .ok (.dup, 1) := by decide +kernel
theorem dX9_pass_35 : decode cX9_pass 35 = .ok (.getfield 30, 3) := by decide +kernel
theorem dX9_pass_38 : decode cX9_pass 38 = .ok (.iconst 1, 1) := by decide +kernel
theorem dX9_pass_39 : decode cX9_pass 39 = .ok (.iadd, 1) := by decide +kernel
theorem dX9_pass_40 : decode cX9_pass 40 = .ok (.putfield 30, 3) := by decide +kernel
theorem dX9_pass_43 : decode cX9_pass 43 = .ok (.iconst 1, 1) := by decide +kernel
theorem dX9_pass_44 : decode cX9_pass 44 = .ok (.ireturn, 1) := by decide +kernel
theorem dX9_readTerm_0 : decode cX9_readTerm 0 = .ok (.aload_n 1, 1) := by decide +kernel
theorem dX9_readTerm_1 : decode cX9_readTerm 1 = .ok (.invokevirtual 66, 3) := by decide +kernel
theorem dX9_readTerm_4 : decode cX9_readTerm 4 = .ok (.iconst 1, 1) := by decide +kernel
theorem dX9_readTerm_5 : decode cX9_readTerm 5 = .ok (.istore_n 3, 1) := by decide +kernel
theorem dX9_readTerm_6 : decode cX9_readTerm 6 = .ok (.iconst 0, 1) := by decide +kernel
theorem dX9_readTerm_7 : decode cX9_readTerm 7 = .ok (.istore 4, 2) := by decide +kernel
theorem dX9_readTerm_9 : decode cX9_readTerm 9 = .ok (.iconst 0, 1) := by decide +kernel
theorem dX9_readTerm_10 : decode cX9_readTerm 10 = .ok (.istore 5, 2) := by decide +kernel
theorem dX9_readTerm_12 : decode cX9_readTerm 12 = .ok (.iload 5, 2) := by decide +kernel
theorem dX9_readTerm_14 : decode cX9_readTerm 14 = .ok (.iload_n 2, 1) := by decide +kernel
theorem dX9_readTerm_15 : decode cX9_readTerm 15 = .ok (.if_icmp .ge 117, 3) := by decide +kernel
theorem dX9_readTerm_18 : decode cX9_readTerm 18 = .ok (.iload_n 3, 1) := by decide +kernel
theorem dX9_readTerm_19 : decode cX9_readTerm 19 = .ok (.ifCond .le 113, 3) := by decide +kernel
theorem dX9_readTerm_22 : decode cX9_readTerm 22 = .ok (.aload_n 0, 1) := by decide +kernel
theorem dX9_readTerm_23 : decode cX9_readTerm 23 = .ok (.getfield 30, 3) := by decide +kernel
theorem dX9_readTerm_26 : decode cX9_readTerm 26 = .ok (.ifCond .lt 14, 3) := by decide +kernel
theorem dX9_readTerm_29 : decode cX9_readTerm 29 = .ok (.aload_n 0, 1) := by decide +kernel
theorem dX9_readTerm_30 : decode cX9_readTerm 30 = .ok (.getfield 30, 3) := by decide +kernel
theorem dX9_readTerm_33 : decode cX9_readTerm 33 = .ok (.aload_n 0, 1) := by decide +kernel
theorem dX9_readTerm_34 : decode cX9_readTerm 34 = .ok (.getfield 26, 3) := by decide +kernel
theorem dX9_readTerm_37 : decode cX9_readTerm 37 = .ok (.if_icmp .lt 5, 3) := by decide +kernel
theorem dX9_readTerm_40 : decode cX9_readTerm 40 = .ok (.iconst 0, 1) := by decide +kernel
theorem dX9_readTerm_41 : decode cX9_readTerm 41 = .ok (.ireturn, 1) := by decide +kernel
theorem dX9_readTerm_42 : decode cX9_readTerm 42 = .ok (.aload_n 0, 1) := by decide +kernel
theorem dX9_readTerm_43 : decode cX9_readTerm 43 = .ok (.getfield 9, 3) := by decide +kernel
theorem dX9_readTerm_46 : decode cX9_readTerm 46 = .ok (.aload_n 0, 1) := by decide +kernel
theorem dX9_readTerm_47 : decode cX9_readTerm 47 = .ok (.getfield 30, 3) := by decide +kernel
theorem dX9_readTerm_50 : decode cX9_readTerm 50 = .ok (.iaload, 1) := by decide +kernel
theorem dX9_readTerm_51 : decode cX9_readTerm 51 = .ok (.istore 6, 2) := by decide +kernel
theorem dX9_readTerm_53 : decode cX9_readTerm 53 = .ok (.aload_n 0, 1) := by decide +kernel
theorem dX9_readTerm_54 : decode cX9_readTerm 54 = .ok (.iload 6, 2) := by decide +kernel
theorem dX9_readTerm_56 : decode cX9_readTerm 56 = .ok (.invokevirtual 69, 3) := by decide +kernel
theorem dX9_readTerm_59 : decode cX9_readTerm 59 = .ok (.istore 7, 2) := by decide +kernel
theorem dX9_readTerm_61 : decode cX9_readTerm 61 = .ok (.iload 7, 2) := by decide +kernel
theorem dX9_readTerm_63 : decode cX9_readTerm 63 = .ok (.bipush (-9), 2) := by decide +kernel
theorem dX9_readTerm_65 : decode cX9_readTerm 65 = .ok (.if_icmp .eq 15, 3) := by decide +kernel
theorem dX9_readTerm_68 : decode cX9_readTerm 68 = .ok (.iload 4, 2) := by decide +kernel
theorem dX9_readTerm_70 : decode cX9_readTerm 70 = .ok (.ifCond .eq 12, 3) := by decide +kernel
theorem dX9_readTerm_73 : decode cX9_readTerm 73 = .ok (.iload 6, 2) := by decide +kernel
theorem dX9_readTerm_75 : decode cX9_readTerm 75 = .ok (.bipush 120, 2) := by decide +kernel
theorem dX9_readTerm_77 : decode cX9_readTerm 77 = .ok (.if_icmp .eq 5, 3) := by decide +kernel
theorem dX9_readTerm_80 : decode cX9_readTerm 80 = .ok (.iconst 0, 1) := by decide +kernel
theorem dX9_readTerm_81 : decode cX9_readTerm 81 = .ok (.ireturn, 1) := by decide +kernel
theorem dX9_readTerm_82 : decode cX9_readTerm 82 = .ok (.iload_n 3, 1) := by decide +kernel
theorem dX9_readTerm_83 : decode cX9_readTerm 83 = .ok (.iload 7, 2) := by decide +kernel
theorem dX9_readTerm_85 : decode cX9_readTerm 85 = .ok (.iconst 1, 1) := by decide +kernel
theorem dX9_readTerm_86 : decode cX9_readTerm 86 = .ok (.isub, 1) := by decide +kernel
theorem dX9_readTerm_87 : decode cX9_readTerm 87 = .ok (.iadd, 1) := by decide +kernel
theorem dX9_readTerm_88 : decode cX9_readTerm 88 = .ok (.istore_n 3, 1) := by decide +kernel
theorem dX9_readTerm_89 : decode cX9_readTerm 89 = .ok (.iload 5, 2) := by decide +kernel
theorem dX9_readTerm_91 : decode cX9_readTerm 91 = .ok (.iconst 1, 1) := by decide +kernel
theorem dX9_readTerm_92 : decode cX9_readTerm 92 = .ok (.iadd, 1) := by decide +kernel
theorem dX9_readTerm_93 : decode cX9_readTerm 93 = .ok (.iload_n 3, 1) := by decide +kernel
theorem dX9_readTerm_94 : decode cX9_readTerm 94 = .ok (.iadd, 1) := by decide +kernel
theorem dX9_readTerm_95 : decode cX9_readTerm 95 = .ok (.iload_n 2, 1) := by decide +kernel
theorem dX9_readTerm_96 : decode cX9_readTerm 96 = .ok (.if_icmp .le 5, 3) := by decide +kernel
theorem dX9_readTerm_99 : decode cX9_readTerm 99 = .ok (.iconst 0, 1) := by decide +kernel
theorem dX9_readTerm_100 : decode cX9_readTerm 100 = .ok (.ireturn, 1) := by decide +kernel
theorem dX9_readTerm_101 : decode cX9_readTerm 101 = .ok (.aload_n 0, 1) := by decide +kernel
theorem dX9_readTerm_102 : decode cX9_readTerm 102 = .ok (.iload 6, 2) := by decide +kernel
theorem dX9_readTerm_104 : decode cX9_readTerm 104 = .ok (.invokevirtual 73, 3) := by decide +kernel
theorem dX9_readTerm_107 : decode cX9_readTerm 107 = .ok (.istore 4, 2) := by decide +kernel
theorem dX9_readTerm_109 : decode cX9_readTerm 109 = .ok (.aload_n 1, 1) := by decide +kernel
theorem dX9_readTerm_110 : decode cX9_readTerm 110 = .ok (.iload 6, 2) := by decide +kernel
theorem dX9_readTerm_112 : decode cX9_readTerm 112 = .ok (.invokevirtual 76, 3) := by decide +kernel
theorem dX9_readTerm_115 : decode cX9_readTerm 115 = .ok (.pop, 1) := by decide +kernel
theorem dX9_readTerm_116 : decode cX9_readTerm 116 = .ok (.aload_n 0, 1) := by decide +kernel
theorem dX9_readTerm_117 : decode cX9_readTerm 117 = .ok (.dup, 1) := by decide +kernel
theorem dX9_readTerm_118 : decode cX9_readTerm 118 = .ok (.getfield 30, 3) := by decide +kernel
theorem dX9_readTerm_121 : decode cX9_readTerm 121 = .ok (.iconst 1, 1) := by decide +kernel
theorem dX9_readTerm_122 : decode cX9_readTerm 122 = .ok (.iadd, 1) := by decide +kernel
theorem dX9_readTerm_123 : decode cX9_readTerm 123 = .ok (.putfield 30, 3) := by decide +kernel
theorem dX9_readTerm_126 : decode cX9_readTerm 126 = .ok (.iinc 5 1, 3) := by decide +kernel
theorem dX9_readTerm_129 : decode cX9_readTerm 129 = .ok (.goto (-117), 3) := by decide +kernel
theorem dX9_readTerm_132 : decode cX9_readTerm 132 = .ok (.iload_n 3, 1) := by decide +kernel
theorem dX9_readTerm_133 : decode cX9_readTerm 133 = .ok (.ifCond .ne 7, 3) := by decide +kernel
theorem dX9_readTerm_136 : decode cX9_readTerm 136 = .ok (.iconst 1, 1) := by decide +kernel
theorem dX9_readTerm_137 : decode cX9_readTerm 137 = .ok (.goto 4, 3) := by decide +kernel
theorem dX9_readTerm_140 : decode cX9_readTerm 140 = .ok (.iconst 0, 1) := by decide +kernel
theorem dX9_readTerm_141 : decode cX9_readTerm 141 = .ok (.ireturn, 1) := by decide +kernel
theorem dX9_isOwn_0 : decode cX9_isOwn 0 = .ok (.aload_n 0, 1) := by decide +kernel
theorem dX9_isOwn_1 : decode cX9_isOwn 1 = .ok (.getfield 43, 3) := by decide +kernel
theorem dX9_isOwn_4 : decode cX9_isOwn 4 = .ok (.ifCond .eq 21, 3) := by decide +kernel
theorem dX9_isOwn_7 : decode cX9_isOwn 7 = .ok (.iload_n 1, 1) := by decide +kernel
theorem dX9_isOwn_8 : decode cX9_isOwn 8 = .ok (.bipush 97, 2) := by decide +kernel
theorem dX9_isOwn_10 : decode cX9_isOwn 10 = .ok (.aload_n 0, 1) := by decide +kernel
theorem dX9_isOwn_11 : decode cX9_isOwn 11 = .ok (.getfield 21, 3) := by decide +kernel
theorem dX9_isOwn_14 : decode cX9_isOwn 14 = .ok (.getfield 79, 3) := by decide +kernel
theorem dX9_isOwn_17 : decode cX9_isOwn 17 = .ok (.iadd, 1) := by decide +kernel
theorem dX9_isOwn_18 : decode cX9_isOwn 18 = .ok (.if_icmp .ne 7, 3) := by decide +kernel
theorem dX9_isOwn_21 : decode cX9_isOwn 21 = .ok (.iconst 1, 1) := by decide +kernel
theorem dX9_isOwn_22 : decode cX9_isOwn 22 = .ok (.goto 4, 3) := by decide +kernel
theorem dX9_isOwn_25 : decode cX9_isOwn 25 = .ok (.iconst 0, 1) := by decide +kernel
theorem dX9_isOwn_26 : decode cX9_isOwn 26 = .ok (.ireturn, 1) := by decide +kernel
theorem dX9_argumentsOf_0 : decode cX9_argumentsOf 0 = .ok (.iload_n 1, 1) := by decide +kernel
theorem dX9_argumentsOf_1 : decode cX9_argumentsOf 1 = .ok (.bipush 97, 2) := by decide +kernel
theorem dX9_argumentsOf_3 : decode cX9_argumentsOf 3 = .ok (.isub, 1) := by decide +kernel
theorem dX9_argumentsOf_4 : decode cX9_argumentsOf 4 = .ok (.istore_n 2, 1) := by decide +kernel
theorem dX9_argumentsOf_5 : decode cX9_argumentsOf 5 = .ok (.iload_n 2, 1) := by decide +kernel
theorem dX9_argumentsOf_6 : decode cX9_argumentsOf 6 = .ok (.ifCond .lt 30, 3) := by decide +kernel
theorem dX9_argumentsOf_9 : decode cX9_argumentsOf 9 = .ok (.iload_n 2, 1) := by decide +kernel
theorem dX9_argumentsOf_10 : decode cX9_argumentsOf 10 = .ok (.aload_n 0, 1) := by decide +kernel
theorem dX9_argumentsOf_11 : decode cX9_argumentsOf 11 = .ok (.getfield 21, 3) := by decide +kernel
theorem dX9_argumentsOf_14 : decode cX9_argumentsOf 14 = .ok (.getfield 79, 3) := by decide +kernel
theorem dX9_argumentsOf_17 : decode cX9_argumentsOf 17 = .ok (.if_icmp .ge 19, 3) := by decide +kernel
theorem dX9_argumentsOf_20 : decode cX9_argumentsOf 20 = .ok (.iload_n 2, 1) := by decide +kernel
theorem dX9_argumentsOf_21 : decode cX9_argumentsOf 21 = .ok (.bipush 6, 2) := by decide +kernel
theorem dX9_argumentsOf_23 : decode cX9_argumentsOf 23 = .ok (.if_icmp .ge 13, 3) := by decide +kernel
theorem dX9_argumentsOf_26 : decode cX9_argumentsOf 26 = .ok (.aload_n 0, 1) := by decide +kernel
theorem dX9_argumentsOf_27 : decode cX9_argumentsOf 27 = .ok (.getfield 21, 3) := by decide +kernel
theorem dX9_argumentsOf_30 : decode cX9_argumentsOf 30 = .ok (.getfield 80, 3) := by decide +kernel
theorem dX9_argumentsOf_33 : decode cX9_argumentsOf 33 = .ok (.iload_n 2, 1) := by decide +kernel
theorem dX9_argumentsOf_34 : decode cX9_argumentsOf 34 = .ok (.iaload, 1) := by decide +kernel
theorem dX9_argumentsOf_35 : decode cX9_argumentsOf 35 = .ok (.ireturn, 1) := by decide +kernel
theorem dX9_argumentsOf_36 : decode cX9_argumentsOf 36 = .ok (.aload_n 0, 1) := by decide +kernel
theorem dX9_argumentsOf_37 : decode cX9_argumentsOf 37 = .ok (.iload_n 1, 1) := by decide +kernel
theorem dX9_argumentsOf_38 : decode cX9_argumentsOf 38 = .ok (.invokevirtual 73, 3) := by decide +kernel
theorem dX9_argumentsOf_41 : decode cX9_argumentsOf 41 = .ok (.ifCond .eq 8, 3) := by decide +kernel
theorem dX9_argumentsOf_44 : decode cX9_argumentsOf 44 = .ok (.aload_n 0, 1) := by decide +kernel
theorem dX9_argumentsOf_45 : decode cX9_argumentsOf 45 = .ok (.getfield 33, 3) := by decide +kernel
theorem dX9_argumentsOf_48 : decode cX9_argumentsOf 48 = .ok (.ireturn, 1) := by decide +kernel
theorem dX9_argumentsOf_49 : decode cX9_argumentsOf 49 = .ok (.iload_n 1, 1) := by decide +kernel
theorem dX9_argumentsOf_50 : decode cX9_argumentsOf 50 = .ok (.lookupswitch 96 #[(83, 52), (90, 50), (120, 54), (121, 68), (122, 82)], 50) := by decide +kernel
theorem dX9_argumentsOf_100 : decode cX9_argumentsOf 100 = .ok (.iconst 0, 1) := by decide +kernel
theorem dX9_argumentsOf_101 : decode cX9_argumentsOf 101 = .ok (.ireturn, 1) := by decide +kernel
theorem dX9_argumentsOf_102 : decode cX9_argumentsOf 102 = .ok (.iconst 1, 1) := by decide +kernel
theorem dX9_argumentsOf_103 : decode cX9_argumentsOf 103 = .ok (.ireturn, 1) := by decide +kernel
theorem dX9_argumentsOf_104 : decode cX9_argumentsOf 104 = .ok (.aload_n 0, 1) := by decide +kernel
theorem dX9_argumentsOf_105 : decode cX9_argumentsOf 105 = .ok (.getfield 46, 3) := by decide +kernel
theorem dX9_argumentsOf_108 : decode cX9_argumentsOf 108 = .ok (.ifCond .eq 7, 3) := by decide +kernel
theorem dX9_argumentsOf_111 : decode cX9_argumentsOf 111 = .ok (.iconst 0, 1) := by decide +kernel
theorem dX9_argumentsOf_112 : decode cX9_argumentsOf 112 = .ok (.goto 5, 3) := by decide +kernel
theorem dX9_argumentsOf_115 : decode cX9_argumentsOf 115 = .ok (.bipush (-9), 2) := by decide +kernel
theorem dX9_argumentsOf_117 : decode cX9_argumentsOf 117 = .ok (.ireturn, 1) := by decide +kernel
theorem dX9_argumentsOf_118 : decode cX9_argumentsOf 118 = .ok (.aload_n 0, 1) := by decide +kernel
theorem dX9_argumentsOf_119 : decode cX9_argumentsOf 119 = .ok (.getfield 36, 3) := by decide +kernel
theorem dX9_argumentsOf_122 : decode cX9_argumentsOf 122 = .ok (.ifCond .eq 7, 3) := by decide +kernel
theorem dX9_argumentsOf_125 : decode cX9_argumentsOf 125 = .ok (.iconst 0, 1) := by decide +kernel
theorem dX9_argumentsOf_126 : decode cX9_argumentsOf 126 = .ok (.goto 5, 3) := by decide +kernel
theorem dX9_argumentsOf_129 : decode cX9_argumentsOf 129 = .ok (.bipush (-9), 2) := by decide +kernel
theorem dX9_argumentsOf_131 : decode cX9_argumentsOf 131 = .ok (.ireturn, 1) := by decide +kernel
theorem dX9_argumentsOf_132 : decode cX9_argumentsOf 132 = .ok (.aload_n 0, 1) := by decide +kernel
theorem dX9_argumentsOf_133 : decode cX9_argumentsOf 133 = .ok (.getfield 40, 3) := by decide +kernel
theorem dX9_argumentsOf_136 : decode cX9_argumentsOf 136 = .ok (.ifCond .eq 7, 3) := by decide +kernel
theorem dX9_argumentsOf_139 : decode cX9_argumentsOf 139 = .ok (.iconst 0, 1) := by decide +kernel
theorem dX9_argumentsOf_140 : decode cX9_argumentsOf 140 = .ok (.goto 5, 3) := by decide +kernel
theorem dX9_argumentsOf_143 : decode cX9_argumentsOf 143 = .ok (.bipush (-9), 2) := by decide +kernel
theorem dX9_argumentsOf_145 : decode cX9_argumentsOf 145 = .ok (.ireturn, 1) := by decide +kernel
theorem dX9_argumentsOf_146 : decode cX9_argumentsOf 146 = .ok (.bipush (-9), 2) := by decide +kernel
theorem dX9_argumentsOf_148 : decode cX9_argumentsOf 148 = .ok (.ireturn, 1) := by decide +kernel
theorem dX10_init_0 : decode cX10_init 0 = .ok (.aload_n 0, 1) := by decide +kernel
theorem dX10_init_1 : decode cX10_init 1 = .ok (.invokespecial 3, 3) := by decide +kernel
theorem dX10_init_4 : decode cX10_init 4 = .ok (.aload_n 0, 1) := by decide +kernel
theorem dX10_init_5 : decode cX10_init 5 = .ok (.bipush 40, 2) := by decide +kernel
theorem dX10_init_7 : decode cX10_init 7 = .ok (.newarray .int, 2) := by decide +kernel
theorem dX10_init_9 : decode cX10_init 9 = .ok (.putfield 9, 3) := by decide +kernel
theorem dX10_init_12 : decode cX10_init 12 = .ok (.aload_n 0, 1) := by decide +kernel
theorem dX10_init_13 : decode cX10_init 13 = .ok (.bipush 40, 2) := by decide +kernel
theorem dX10_init_15 : decode cX10_init 15 = .ok (.newarray .int, 2) := by decide +kernel
theorem dX10_init_17 : decode cX10_init 17 = .ok (.putfield 15, 3) := by decide +kernel
theorem dX10_init_20 : decode cX10_init 20 = .ok (.return_, 1) := by decide +kernel
theorem dX10_empty_0 : decode cX10_empty 0 = .ok (.aload_n 0, 1) := by decide +kernel
theorem dX10_empty_1 : decode cX10_empty 1 = .ok (.iconst 0, 1) := by decide +kernel
theorem dX10_empty_2 : decode cX10_empty 2 = .ok (.putfield 18, 3) := by decide +kernel
theorem dX10_empty_5 : decode cX10_empty 5 = .ok (.return_, 1) := by decide +kernel
theorem dX10_add_0 : decode cX10_add 0 = .ok (.aload_n 0, 1) := by decide +kernel
theorem dX10_add_1 : decode cX10_add 1 = .ok (.getfield 18, 3) := by decide +kernel
theorem dX10_add_4 : decode cX10_add 4 = .ok (.ifCond .lt 12, 3) := by decide +kernel
theorem dX10_add_7 : decode cX10_add 7 = .ok (.aload_n 0, 1) := by decide +kernel
theorem dX10_add_8 : decode cX10_add 8 = .ok (.getfield 18, 3) := by decide +kernel
theorem dX10_add_11 : decode cX10_add 11 = .ok (.bipush 40, 2) := by decide +kernel
theorem dX10_add_13 : decode cX10_add 13 = .ok (.if_icmp .lt 5, 3) := by decide +kernel
theorem dX10_add_16 : decode cX10_add 16 = .ok (.iconst 0, 1) := by decide +kernel
theorem dX10_add_17 : decode cX10_add 17 = .ok (.ireturn, 1) := by decide +kernel
theorem dX10_add_18 : decode cX10_add 18 = .ok (.aload_n 0, 1) := by decide +kernel
theorem dX10_add_19 : decode cX10_add 19 = .ok (.getfield 9, 3) := by decide +kernel
theorem dX10_add_22 : decode cX10_add 22 = .ok (.aload_n 0, 1) := by decide +kernel
theorem dX10_add_23 : decode cX10_add 23 = .ok (.getfield 18, 3) := by decide +kernel
theorem dX10_add_26 : decode cX10_add 26 = .ok (.iload_n 1, 1) := by decide +kernel
theorem dX10_add_27 : decode cX10_add 27 = .ok (.iastore, 1) := by decide +kernel
theorem dX10_add_28 : decode cX10_add 28 = .ok (.aload_n 0, 1) := by decide +kernel
theorem dX10_add_29 : decode cX10_add 29 = .ok (.dup, 1) := by decide +kernel
theorem dX10_add_30 : decode cX10_add 30 = .ok (.getfield 18, 3) := by decide +kernel
theorem dX10_add_33 : decode cX10_add 33 = .ok (.iconst 1, 1) := by decide +kernel
theorem dX10_add_34 : decode cX10_add 34 = .ok (.iadd, 1) := by decide +kernel
theorem dX10_add_35 : decode cX10_add 35 = .ok (.putfield 18, 3) := by decide +kernel
theorem dX10_add_38 : decode cX10_add 38 = .ok (.iconst 1, 1) := by decide +kernel
theorem dX10_add_39 : decode cX10_add 39 = .ok (.ireturn, 1) := by decide +kernel
theorem dX10_addRange_0 : decode cX10_addRange 0 = .ok (.iload_n 3, 1) := by decide +kernel
theorem dX10_addRange_1 : decode cX10_addRange 1 = .ok (.iload_n 2, 1) := by decide +kernel
theorem dX10_addRange_2 : decode cX10_addRange 2 = .ok (.isub, 1) := by decide +kernel
theorem dX10_addRange_3 : decode cX10_addRange 3 = .ok (.istore 4, 2) := by decide +kernel
theorem dX10_addRange_5 : decode cX10_addRange 5 = .ok (.iload_n 2, 1) := by decide +kernel
theorem dX10_addRange_6 : decode cX10_addRange 6 = .ok (.ifCond .lt 28, 3) := by decide +kernel
theorem dX10_addRange_9 : decode cX10_addRange 9 = .ok (.iload 4, 2) := by decide +kernel
theorem dX10_addRange_11 : decode cX10_addRange 11 = .ok (.ifCond .lt 23, 3) := by decide +kernel
theorem dX10_addRange_14 : decode cX10_addRange 14 = .ok (.iload_n 3, 1) := by decide +kernel
theorem dX10_addRange_15 : decode cX10_addRange 15 = .ok (.aload_n 1, 1) := by decide +kernel
theorem dX10_addRange_16 : decode cX10_addRange 16 = .ok (.getfield 18, 3) := by decide +kernel
theorem dX10_addRange_19 : decode cX10_addRange 19 = .ok (.if_icmp .gt 15, 3) := by decide +kernel
theorem dX10_addRange_22 : decode cX10_addRange 22 = .ok (.aload_n 0, 1) := by decide +kernel
theorem dX10_addRange_23 : decode cX10_addRange 23 = .ok (.getfield 18, 3) := by decide +kernel
theorem dX10_addRange_26 : decode cX10_addRange 26 = .ok (.iload 4, 2) := by decide +kernel
theorem dX10_addRange_28 : decode cX10_addRange 28 = .ok (.iadd, 1) := by decide +kernel
theorem dX10_addRange_29 : decode cX10_addRange 29 = .ok (.bipush 40, 2) := by decide +kernel
theorem dX10_addRange_31 : decode cX10_addRange 31 = .ok (.if_icmp .le 5, 3) := by decide +kernel
theorem dX10_addRange_34 : decode cX10_addRange 34 = .ok (.iconst 0, 1) := by decide +kernel
theorem dX10_addRange_35 : decode cX10_addRange 35 = .ok (.ireturn, 1) := by decide +kernel
theorem dX10_addRange_36 : decode cX10_addRange 36 = .ok (.aload_n 1, 1) := by decide +kernel
theorem dX10_addRange_37 : decode cX10_addRange 37 = .ok (.getfield 9, 3) := by decide +kernel
theorem dX10_addRange_40 : decode cX10_addRange 40 = .ok (.iload_n 2, 1) := by decide +kernel
theorem dX10_addRange_41 : decode cX10_addRange 41 = .ok (.aload_n 0, 1) := by decide +kernel
theorem dX10_addRange_42 : decode cX10_addRange 42 = .ok (.getfield 9, 3) := by decide +kernel
theorem dX10_addRange_45 : decode cX10_addRange 45 = .ok (.aload_n 0, 1) := by decide +kernel
theorem dX10_addRange_46 : decode cX10_addRange 46 = .ok (.getfield 18, 3) := by decide +kernel
theorem dX10_addRange_49 : decode cX10_addRange 49 = .ok (.iload 4, 2) := by decide +kernel
theorem dX10_addRange_51 : decode cX10_addRange 51 = .ok (.invokestatic 22, 3) := by decide +kernel
theorem dX10_addRange_54 : decode cX10_addRange 54 = .ok (.aload_n 0, 1) := by decide +kernel
theorem dX10_addRange_55 : decode cX10_addRange 55 = .ok (.dup, 1) := by decide +kernel
theorem dX10_addRange_56 : decode cX10_addRange 56 = .ok (.getfield 18, 3) := by decide +kernel
theorem dX10_addRange_59 : decode cX10_addRange 59 = .ok (.iload 4, 2) := by decide +kernel
theorem dX10_addRange_61 : decode cX10_addRange 61 = .ok (.iadd, 1) := by decide +kernel
theorem dX10_addRange_62 : decode cX10_addRange 62 = .ok (.putfield 18, 3) := by decide +kernel
theorem dX10_addRange_65 : decode cX10_addRange 65 = .ok (.iconst 1, 1) := by decide +kernel
theorem dX10_addRange_66 : decode cX10_addRange 66 = .ok (.ireturn, 1) := by decide +kernel
theorem dX10_close_0 : decode cX10_close 0 = .ok (.aload_n 0, 1) := by decide +kernel
theorem dX10_close_1 : decode cX10_close 1 = .ok (.getfield 18, 3) := by decide +kernel
theorem dX10_close_4 : decode cX10_close 4 = .ok (.iconst 1, 1) := by decide +kernel
theorem dX10_close_5 : decode cX10_close 5 = .ok (.isub, 1) := by decide +kernel
theorem dX10_close_6 : decode cX10_close 6 = .ok (.istore_n 2, 1) := by decide +kernel
theorem dX10_close_7 : decode cX10_close 7 = .ok (.iload_n 2, 1) := by decide +kernel
theorem dX10_close_8 : decode cX10_close 8 = .ok (.ifCond .lt 81, 3) := by decide +kernel
theorem dX10_close_11 : decode cX10_close 11 = .ok (.iload_n 2, 1) := by decide +kernel
theorem dX10_close_12 : decode cX10_close 12 = .ok (.iconst 1, 1) := by decide +kernel
theorem dX10_close_13 : decode cX10_close 13 = .ok (.iadd, 1) := by decide +kernel
theorem dX10_close_14 : decode cX10_close 14 = .ok (.istore_n 3, 1) := by decide +kernel
theorem dX10_close_15 : decode cX10_close 15 = .ok (.aload_n 0, 1) := by decide +kernel
theorem dX10_close_16 : decode cX10_close 16 = .ok (.getfield 9, 3) := by decide +kernel
theorem dX10_close_19 : decode cX10_close 19 = .ok (.iload_n 2, 1) := by decide +kernel
theorem dX10_close_20 : decode cX10_close 20 = .ok (.iaload, 1) := by decide +kernel
theorem dX10_close_21 : decode cX10_close 21 = .ok (.istore 4, 2) := by decide +kernel
theorem dX10_close_23 : decode cX10_close 23 = .ok (.iload 4, 2) := by decide +kernel
theorem dX10_close_25 : decode cX10_close 25 = .ok (.ifCond .lt 17, 3) := by decide +kernel
theorem dX10_close_28 : decode cX10_close 28 = .ok (.iload 4, 2) := by decide +kernel
theorem dX10_close_30 : decode cX10_close 30 = .ok (.aload_n 1, 1) := by decide +kernel
theorem dX10_close_31 : decode cX10_close 31 = .ok (.arraylength, 1) := by decide +kernel
theorem dX10_close_32 : decode cX10_close 32 = .ok (.if_icmp .ge 10, 3) := by decide +kernel
theorem dX10_close_35 : decode cX10_close 35 = .ok (.aload_n 1, 1) := by decide +kernel
theorem dX10_close_36 : decode cX10_close 36 = .ok (.iload 4, 2) := by decide +kernel
theorem dX10_close_38 : decode cX10_close 38 = .ok (.iaload, 1) := by decide +kernel
theorem dX10_close_39 : decode cX10_close 39 = .ok (.goto 4, 3) := by decide +kernel
theorem dX10_close_42 : decode cX10_close 42 = .ok (.iconst 0, 1) := by decide +kernel
theorem dX10_close_43 : decode cX10_close 43 = .ok (.istore 5, 2) := by decide +kernel
theorem dX10_close_45 : decode cX10_close 45 = .ok (.iconst 0, 1) := by decide +kernel
theorem dX10_close_46 : decode cX10_close 46 = .ok (.istore 6, 2) := by decide +kernel
theorem dX10_close_48 : decode cX10_close 48 = .ok (.iload 6, 2) := by decide +kernel
theorem dX10_close_50 : decode cX10_close 50 = .ok (.iload 5, 2) := by decide +kernel
theorem dX10_close_52 : decode cX10_close 52 = .ok (.if_icmp .ge 24, 3) := by decide +kernel
theorem dX10_close_55 : decode cX10_close 55 = .ok (.iload_n 3, 1) := by decide +kernel
theorem dX10_close_56 : decode cX10_close 56 = .ok (.aload_n 0, 1) := by decide +kernel
theorem dX10_close_57 : decode cX10_close 57 = .ok (.getfield 18, 3) := by decide +kernel
theorem dX10_close_60 : decode cX10_close 60 = .ok (.if_icmp .ge 16, 3) := by decide +kernel
theorem dX10_close_63 : decode cX10_close 63 = .ok (.aload_n 0, 1) := by decide +kernel
theorem dX10_close_64 : decode cX10_close 64 = .ok (.getfield 15, 3) := by decide +kernel
theorem dX10_close_67 : decode cX10_close 67 = .ok (.iload_n 3, 1) := by decide +kernel
theorem dX10_close_68 : decode cX10_close 68 = .ok (.iaload, 1) := by decide +kernel
theorem dX10_close_69 : decode cX10_close 69 = .ok (.istore_n 3, 1) := by decide +kernel
theorem dX10_close_70 : decode cX10_close 70 = .ok (.iinc 6 1, 3) := by decide +kernel
theorem dX10_close_73 : decode cX10_close 73 = .ok (.goto (-25), 3) := by decide +kernel
theorem dX10_close_76 : decode cX10_close 76 = .ok (.aload_n 0, 1) := by decide +kernel
theorem dX10_close_77 : decode cX10_close 77 = .ok (.getfield 15, 3) := by decide +kernel
theorem dX10_close_80 : decode cX10_close 80 = .ok (.iload_n 2, 1) := by decide +kernel
theorem dX10_close_81 : decode cX10_close 81 = .ok (.iload_n 3, 1) := by decide +kernel
theorem dX10_close_82 : decode cX10_close 82 = .ok (.iastore, 1) := by decide +kernel
theorem dX10_close_83 : decode cX10_close 83 = .ok (.iinc 2 (-1), 3) := by decide +kernel
theorem dX10_close_86 : decode cX10_close 86 = .ok (.goto (-79), 3) := by decide +kernel
theorem dX10_close_89 : decode cX10_close 89 = .ok (.return_, 1) := by decide +kernel
theorem dX10_copy_0 : decode cX10_copy 0 = .ok (.aload_n 0, 1) := by decide +kernel
theorem dX10_copy_1 : decode cX10_copy 1 = .ok (.aload_n 1, 1) := by decide +kernel
theorem dX10_copy_2 : decode cX10_copy 2 = .ok (.getfield 18, 3) := by decide +kernel
